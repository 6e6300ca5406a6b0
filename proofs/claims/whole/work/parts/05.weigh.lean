section
variable {wc dl ns nb ca dn sn bm : Int32} {ba ds mk wo vt bo us ws wv nt ys yv yz : Nat → Int32}
theorem e4_d {s : Nat} (hs : s < 16) : (nI s + 4) - (nI s + 4) / 6 * 6 = nI ((s + 4) % 6) := rb_dk (k := 4) (by omega) (by decide)
theorem e5_d {s : Nat} (hs : s < 16) : (nI s + 5) - (nI s + 5) / 6 * 6 = nI ((s + 5) % 6) := rb_dk (k := 5) (by omega) (by decide)
theorem xe_0 {post : SX → Prop} {s : Nat} (hs : s < 16) (h : post (wc, dl, ns, nb, ca, dn, sn, bm, ba, ds, mk, fn_2 (th_v ds mk ((s + 5) % 6) s) (fn_1 (th_v ds mk ((s + 4) % 6) s) wo), vt, bo, us, ws, wv, nt)) : wX_findWorths_7 post (nI s) wc dl ns nb ca dn sn bm 1 (-1) (-1) (nI 0 + (-1)) ba ds mk wo vt bo us ws wv nt := by
  refine br_t (by decide) ⟨rb_6, ?_⟩
  rw [e4_d hs]
  refine xt_r (Nat.mod_lt _ (by decide)) hs ⟨rb_6, ?_⟩
  rw [e5_d hs]
  refine xt_r (Nat.mod_lt _ (by decide)) hs (xd_r (nm_e (xs_r (nm_e ?_))))
  exact br_t rb_n1lt (br_t rb_n1lt (br_t rb_n1lt (xw_f h)))
theorem xe_p {post : SX → Prop} {s g : Nat} (hs : s < 16) (hg : g < 4) (hP : ¬ th_v ds mk ((s + 4) % 6) s = 0) (h : post (wc, dl, ns, nb, ca, dn, sn, bm, ba, ds, mk, fn_2 (th_v ds mk ((s + 5) % 6) s) (fn_1 (th_v ds mk ((s + 4) % 6) s) (upd wo g (wo 4 ^^^ sm_D wo))), vt, bo, us, ws, wv, nt)) : wX_findWorths_7 post (nI s) wc dl ns nb ca dn sn bm 1 (nI g) (-1) (nI 0 + (-1)) ba ds mk wo vt bo us ws wv nt := by
  refine br_t (by decide) ⟨rb_6, ?_⟩
  rw [e4_d hs]
  refine xt_r (Nat.mod_lt _ (by decide)) hs ⟨rb_6, ?_⟩
  rw [e5_d hs]
  refine xt_r (Nat.mod_lt _ (by decide)) hs (xd_r (nm_e (xs_r (nm_e ?_))))
  refine br_t rb_n1lt (br_f (nI_pos (by omega)) (br_f hP ⟨vp_in_nI (by omega) (by omega), ?_⟩))
  rw [nI_clamp (by omega)]
  exact nm_e (xw_f h)
theorem xe_q {post : SX → Prop} {s g x0 : Nat} (hs : s < 16) (hg : g < 4) (hP : th_v ds mk ((s + 4) % 6) s = 0) (hx : x0 < 256) (hu : ∀ y : Nat, y < 256 → gf_d g (nI y) = wo 5 ^^^ sm_P wo → y = x0) (hq : gf_d g (nI x0) = wo 5 ^^^ sm_P wo) (h : post (wc, dl, ns, nb, ca, dn, sn, bm, ba, ds, mk, fn_2 (th_v ds mk ((s + 5) % 6) s) (fn_1 (th_v ds mk ((s + 4) % 6) s) (upd wo g (nI x0))), vt, bo, us, ws, wv, nt)) : wX_findWorths_7 post (nI s) wc dl ns nb ca dn sn bm 1 (nI g) (-1) (nI 0 + (-1)) ba ds mk wo vt bo us ws wv nt := by
  refine br_t (by decide) ⟨rb_6, ?_⟩
  rw [e4_d hs]
  refine xt_r (Nat.mod_lt _ (by decide)) hs ⟨rb_6, ?_⟩
  rw [e5_d hs]
  refine xt_r (Nat.mod_lt _ (by decide)) hs (xd_r (nm_e (xs_r (nm_e ?_))))
  exact br_t rb_n1lt (br_f (nI_pos (by omega)) (br_t hP (br_f (nI_pos (by omega)) (xq_r (by omega) hx hu hq (xw_f h)))))
theorem xe_2 {post : SX → Prop} {s g k x0 : Nat} (hs : s < 16) (hg : g < 4) (hk : k < 4) (hx : x0 < 256) (hu : ∀ y : Nat, y < 256 → gf_d g (nI y) ^^^ gf_d k ((wo 4 ^^^ sm_D wo) ^^^ nI y) = wo 5 ^^^ sm_P wo → y = x0) (hq : gf_d g (nI x0) ^^^ gf_d k ((wo 4 ^^^ sm_D wo) ^^^ nI x0) = wo 5 ^^^ sm_P wo) (h : post (wc, dl, ns, nb, ca, dn, sn, bm, ba, ds, mk, fn_2 (th_v ds mk ((s + 5) % 6) s) (fn_1 (th_v ds mk ((s + 4) % 6) s) (upd (upd wo g (nI x0)) k ((wo 4 ^^^ sm_D wo) ^^^ nI x0))), vt, bo, us, ws, wv, nt)) : wX_findWorths_7 post (nI s) wc dl ns nb ca dn sn bm 1 (nI g) (nI k) (nI 0 + (-1)) ba ds mk wo vt bo us ws wv nt := by
  refine br_t (by decide) ⟨rb_6, ?_⟩
  rw [e4_d hs]
  refine xt_r (Nat.mod_lt _ (by decide)) hs ⟨rb_6, ?_⟩
  rw [e5_d hs]
  refine xt_r (Nat.mod_lt _ (by decide)) hs (xd_r (nm_e (xs_r (nm_e ?_))))
  exact br_f (nI_pos (by omega)) (x2_r (by omega) (by omega) hx hu hq (xw_f h))
theorem ye_0 {post : SY → Prop} {s : Nat} (hs : s < 16) (h : post (dl, ca, sn, bm, dn, wc, nb, ns, ba, ds, mk, vt, bo, ys, yv, nt, fn_2 (th_v ds mk ((s + 5) % 6) s) (fn_1 (th_v ds mk ((s + 4) % 6) s) yz))) : wY_weigh_55 post (nI s) dl ca sn bm dn wc nb ns ba ds mk vt bo ys yv nt yz 1 (-1) (-1) (nI 4) :=
  br_t (by decide) (yh_r (k := 4) hs (by decide) (yh_r (k := 5) hs (by decide) (br_f rb_n1le ⟨1, br_f (by decide) (br_f (by decide) (yw_f h))⟩)))
theorem ye_g {post : SY → Prop} {s g n : Nat} {m : Int32} (hs : s < 16) (hg : g < 4) (h : wY_weigh_123 post (nI g) m (th_v ds mk ((s + 4) % 6) s) (th_v ds mk ((s + 5) % 6) s) dl ca sn bm dn wc nb ns n 0 (nI 0) ba ds mk vt bo ys yv nt yz) : wY_weigh_55 post (nI s) dl ca sn bm dn wc nb ns ba ds mk vt bo ys yv nt yz 1 (nI g) m (nI 4) :=
  br_t (by decide) (yh_r (k := 4) hs (by decide) (yh_r (k := 5) hs (by decide) (br_t (nI_pos' (by omega)) ⟨n, h⟩)))
def wb_x (wo ba ds mk : Nat → Int32) (s : Nat) : Nat → Int32 := upd (upd (upd (upd (upd (upd wo 5 (bs_v ba ds mk s 5)) 4 (bs_v ba ds mk s 4)) 3 (bs_v ba ds mk s 3)) 2 (bs_v ba ds mk s 2)) 1 (bs_v ba ds mk s 1)) 0 (bs_v ba ds mk s 0)
def wb_y (yz ba ds mk : Nat → Int32) (s : Nat) : Nat → Int32 := upd (upd (upd (upd (upd (upd yz 0 (bs_v ba ds mk s 0)) 1 (bs_v ba ds mk s 1)) 2 (bs_v ba ds mk s 2)) 3 (bs_v ba ds mk s 3)) 4 (bs_v ba ds mk s 4)) 5 (bs_v ba ds mk s 5)
theorem wb_ax {s : Nat} : ag_6 (wb_x wo ba ds mk s) (bs_v ba ds mk s) := by
  intro j hj
  match j, hj with
  | 0, _ => rfl
  | 1, _ => rfl
  | 2, _ => rfl
  | 3, _ => rfl
  | 4, _ => rfl
  | 5, _ => rfl
theorem wb_ay {s : Nat} : ag_6 (wb_y yz ba ds mk s) (bs_v ba ds mk s) := by
  intro j hj
  match j, hj with
  | 0, _ => rfl
  | 1, _ => rfl
  | 2, _ => rfl
  | 3, _ => rfl
  | 4, _ => rfl
  | 5, _ => rfl
def tv_s (ds mk : Nat → Int32) (s k : Nat) : Int32 := th_v ds mk ((s + k) % 6) s
theorem xw_k {post : SX → Prop} {s k n : Nat} {p : Int32 × Int32} (hs : s < 16) (hk : k + 1 < 6) (h : wX_findWorths_7 post (nI s) wc dl ns nb ca dn sn bm n (gx_s (tv_s ds mk s (k + 1)) (k + 1) p).1 (gx_s (tv_s ds mk s (k + 1)) (k + 1) p).2 (nI k) ba ds mk (upd wo (k + 1) (bs_v ba ds mk s (k + 1))) vt bo us ws wv nt) : wX_findWorths_7 post (nI s) wc dl ns nb ca dn sn bm (n + 1) p.1 p.2 (nI (k + 1)) ba ds mk wo vt bo us ws wv nt :=
  xw_s hs hk (by rw [pk_m1]; exact h)
theorem xw_r {post : SX → Prop} {s : Nat} (hs : s < 16) (h : wX_findWorths_7 post (nI s) wc dl ns nb ca dn sn bm 1 (gx_a (tv_s ds mk s)).1 (gx_a (tv_s ds mk s)).2 (nI 0 + (-1)) ba ds mk (wb_x wo ba ds mk s) vt bo us ws wv nt) : wpX_findWorths post (wc, dl, ns, nb, ca, dn, sn, bm, ba, ds, mk, wo, vt, bo, us, ws, wv, nt) (nI s) :=
  ⟨7, xw_k (k := 4) (p := (-1, -1)) hs (by decide) (xw_k (k := 3) hs (by decide) (xw_k (k := 2) hs (by decide) (xw_k (k := 1) hs (by decide) (xw_k (k := 0) hs (by decide) (xw_s (k := 0) hs (by decide) h)))))⟩
theorem yw_r {post : SY → Prop} {s : Nat} (hs : s < 16) (h : wY_weigh_55 post (nI s) dl ca sn bm dn wc nb ns ba ds mk vt bo ys yv nt (wb_y yz ba ds mk s) 1 (gy_a (tv_s ds mk s)).1 (gy_a (tv_s ds mk s)).2 (nI 4)) : wpY_weigh post (dl, ca, sn, bm, dn, wc, nb, ns, ba, ds, mk, vt, bo, ys, yv, nt, yz) (nI s) :=
  ⟨7, yw_s (k := 0) hs (by decide) (yw_s (k := 1) hs (by decide) (yw_s (k := 2) hs (by decide) (yw_s (k := 3) hs (by decide) (yw_s (k := 4) hs (by decide) (yw_s (k := 5) hs (by decide) (br_t (by decide) ⟨5, y5_s (k := 0) (p := (-1, -1)) hs (by decide) (y5_s (k := 1) hs (by decide) (y5_s (k := 2) hs (by decide) (y5_s (k := 3) hs (by decide) h)))⟩))))))⟩
theorem lo_4 {s : Nat} (h : lo_v ds mk s = 0) : (if tv_s ds mk s 0 = 0 then 1 else 0) + (if tv_s ds mk s 1 = 0 then 1 else 0) + (if tv_s ds mk s 2 = 0 then 1 else 0) + (if tv_s ds mk s 3 = 0 then 1 else 0) ≤ 2 := by
  have h2 : cm_x ds mk s 6 ≤ 2 := by
    unfold lo_v at h
    by_cases c : cm_x ds mk s 6 ≤ 2
    · exact c
    · rw [if_neg c] at h; exact absurd h (by decide)
  rw [← cm_e] at h2
  simp only [cm_y] at h2
  unfold tv_s
  omega
theorem by_g {a b : Nat → Int32} (h : ag_6 a b) (hb : by_6 b) : by_6 a := fun j hj => by rw [h j hj]; exact hb j hj
theorem ag_s {a b : Nat → Int32} (h : ag_6 a b) : ag_6 b a := fun j hj => (h j hj).symm
theorem ag_t {a b c : Nat → Int32} (h : ag_6 a b) (k : ag_6 b c) : ag_6 a c := fun j hj => (h j hj).trans (k j hj)
/-- both sides find the same worths of a stripe that isn't lost -/
theorem fw_r {s : Nat} (hs : s < 16) (hb : by_k ba) (hl : lo_v ds mk s = 0) : ∃ wo' yz' : Nat → Int32, ag_6 wo' yz' ∧ by_6 wo' ∧ (∀ post : SX → Prop, post (wc, dl, ns, nb, ca, dn, sn, bm, ba, ds, mk, wo', vt, bo, us, ws, wv, nt) → wpX_findWorths post (wc, dl, ns, nb, ca, dn, sn, bm, ba, ds, mk, wo, vt, bo, us, ws, wv, nt) (nI s)) ∧ (∀ post : SY → Prop, post (dl, ca, sn, bm, dn, wc, nb, ns, ba, ds, mk, vt, bo, ys, yv, nt, yz') → wpY_weigh post (dl, ca, sn, bm, dn, wc, nb, ns, ba, ds, mk, vt, bo, ys, yv, nt, yz) (nI s)) := by
  have hB : by_6 (bs_v ba ds mk s) := fun j _ => bs_b hs hb j
  have hX := wb_ax (wo := wo) (ba := ba) (ds := ds) (mk := mk) (s := s)
  have hY := wb_ay (yz := yz) (ba := ba) (ds := ds) (mk := mk) (s := s)
  have hXY := ag_t hX (ag_s hY)
  have bX := by_g hX hB
  have bY := by_g hY hB
  have z0 : ∀ g, g < 4 → tv_s ds mk s g = 0 → wb_y yz ba ds mk s g = 0 := by
    intro g hg h
    rw [hY g (by omega), bs_v]
    exact if_pos h
  rcases gc_r (tv_s ds mk s) (lo_4 hl) with ⟨e1, e2⟩ | ⟨g, hg, tg, e1, e2⟩ | ⟨g, k, hgk, hk, tg, tk, e1, e2⟩
  · refine ⟨fn_2 (th_v ds mk ((s + 5) % 6) s) (fn_1 (th_v ds mk ((s + 4) % 6) s) (wb_x wo ba ds mk s)), fn_2 (th_v ds mk ((s + 5) % 6) s) (fn_1 (th_v ds mk ((s + 4) % 6) s) (wb_y yz ba ds mk s)), ?_, ?_, fun post hp => xw_r hs ?_, fun post hp => yw_r hs ?_⟩
    rotate_left 2
    · rw [e1]; exact xe_0 hs hp
    · rw [e2]; exact ye_0 hs hp
    · exact ag_f2 (ag_f1 hXY)
    · exact by_f2 (by_f1 bX)
  · have zg := z0 g hg tg
    by_cases hP : th_v ds mk ((s + 4) % 6) s = 0
    · -- by Q
      obtain ⟨x0, hx, hq, hu⟩ := sol_1 hg (is_bx (bY 5 (by decide)) (by_P bY))
      have hqX : wb_x wo ba ds mk s 5 ^^^ sm_P (wb_x wo ba ds mk s) = wb_y yz ba ds mk s 5 ^^^ sm_P (wb_y yz ba ds mk s) := by
        rw [hXY 5 (by decide), ag_P hXY]
      refine ⟨fn_2 (th_v ds mk ((s + 5) % 6) s) (fn_1 (th_v ds mk ((s + 4) % 6) s) (upd (wb_x wo ba ds mk s) g (nI x0))), fn_2 (th_v ds mk ((s + 5) % 6) s) (fn_1 (th_v ds mk ((s + 4) % 6) s) (upd (wb_y yz ba ds mk s) g (nI x0))), ?_, ?_, fun post hp => xw_r hs ?_, fun post hp => yw_r hs ?_⟩
      rotate_left 2
      · rw [e1]; exact xe_q hs hg hP hx (by rw [hqX]; exact hu) (by rw [hqX]; exact hq) hp
      · rw [e2]
        have h0 := y1_q (post := post) (yz := wb_y yz ba ds mk s) (g := g) (x0 := x0) (tP := th_v ds mk ((s + 4) % 6) s) (tQ := th_v ds mk ((s + 5) % 6) s) (m := -1) rb_n1lt hg hx hP (by rw [sm_Pu hg zg, xo_r]; exact hq) (fun y hy c => by
          rw [sm_Pu hg zg, xo_r] at c
          have := hu y (by omega) c
          omega) hp x0 0 (wb_y yz ba ds mk s g) (by omega)
        rw [rb_ui] at h0
        exact ye_g hs hg h0
      · exact ag_f2 (ag_f1 (ag_u hXY rfl))
      · exact by_f2 (by_f1 (by_u bX ⟨x0, hx, rfl⟩))
    · -- by P
      obtain ⟨x0, hx, hq⟩ := is_bx (bY 4 (by decide)) (by_D bY)
      have hqX : wb_x wo ba ds mk s 4 ^^^ sm_D (wb_x wo ba ds mk s) = nI x0 := by
        rw [hXY 4 (by decide), ag_D hXY]; exact hq
      refine ⟨fn_2 (th_v ds mk ((s + 5) % 6) s) (fn_1 (th_v ds mk ((s + 4) % 6) s) (upd (wb_x wo ba ds mk s) g ((wb_x wo ba ds mk s) 4 ^^^ sm_D (wb_x wo ba ds mk s)))), fn_2 (th_v ds mk ((s + 5) % 6) s) (fn_1 (th_v ds mk ((s + 4) % 6) s) (upd (wb_y yz ba ds mk s) g (nI x0))), ?_, ?_, fun post hp => xw_r hs ?_, fun post hp => yw_r hs ?_⟩
      rotate_left 2
      · rw [e1]; exact xe_p hs hg hP hp
      · rw [e2]
        have h0 := y1_p (post := post) (yz := wb_y yz ba ds mk s) (g := g) (x0 := x0) (tP := th_v ds mk ((s + 4) % 6) s) (tQ := th_v ds mk ((s + 5) % 6) s) (m := -1) rb_n1lt hg hx hP (by rw [sm_Du hg zg, xo_r]; exact hq.symm) (fun y hy c => by
          rw [sm_Du hg zg, xo_r, hq] at c
          have := (nI_eq (by omega) (by omega)).mp c
          omega) hp x0 0 (wb_y yz ba ds mk s g) (by omega)
        rw [rb_ui] at h0
        exact ye_g hs hg h0
      · exact ag_f2 (ag_f1 (ag_u hXY hqX))
      · exact by_f2 (by_f1 (by_u bX (by rw [hqX]; exact ⟨x0, hx, rfl⟩)))
  · have zg := z0 g (by omega) tg
    have zk := z0 k hk tk
    obtain ⟨x0, hx, hq, hu⟩ := sol_2 hgk hk (is_bx (bY 4 (by decide)) (by_D bY)) (is_bx (bY 5 (by decide)) (by_P bY))
    have hqX : wb_x wo ba ds mk s 5 ^^^ sm_P (wb_x wo ba ds mk s) = wb_y yz ba ds mk s 5 ^^^ sm_P (wb_y yz ba ds mk s) := by
      rw [hXY 5 (by decide), ag_P hXY]
    have hpX : wb_x wo ba ds mk s 4 ^^^ sm_D (wb_x wo ba ds mk s) = wb_y yz ba ds mk s 4 ^^^ sm_D (wb_y yz ba ds mk s) := by
      rw [hXY 4 (by decide), ag_D hXY]
    have hv : ∀ y : Int32, y2_v (wb_y yz ba ds mk s) g k y = (wb_y yz ba ds mk s 4 ^^^ sm_D (wb_y yz ba ds mk s)) ^^^ y := by
      intro y
      have e : upd (upd (wb_y yz ba ds mk s) g y) k 0 = upd (wb_y yz ba ds mk s) g y := by
        have := rb_ui (f := upd (wb_y yz ba ds mk s) g y) (k := k)
        rw [pk_un (by omega), zk] at this
        exact this
      rw [y2_v, e, sm_Du (by omega) zg]
      ac_rfl
    have hw : ∀ y : Int32, sm_P (upd (upd (wb_y yz ba ds mk s) g y) k (y2_v (wb_y yz ba ds mk s) g k y)) = wb_y yz ba ds mk s 5 ↔ gf_d g y ^^^ gf_d k ((wb_y yz ba ds mk s 4 ^^^ sm_D (wb_y yz ba ds mk s)) ^^^ y) = wb_y yz ba ds mk s 5 ^^^ sm_P (wb_y yz ba ds mk s) := by
      intro y
      rw [sm_Pu hk (by rw [pk_un (by omega)]; exact zk), sm_Pu (by omega) zg, hv, ← Int32.xor_assoc, xo_r, Int32.xor_comm (gf_d k _)]
    refine ⟨fn_2 (th_v ds mk ((s + 5) % 6) s) (fn_1 (th_v ds mk ((s + 4) % 6) s) (upd (upd (wb_x wo ba ds mk s) g (nI x0)) k (((wb_x wo ba ds mk s) 4 ^^^ sm_D (wb_x wo ba ds mk s)) ^^^ nI x0))), fn_2 (th_v ds mk ((s + 5) % 6) s) (fn_1 (th_v ds mk ((s + 4) % 6) s) (upd (upd (wb_y yz ba ds mk s) g (nI x0)) k (y2_v (wb_y yz ba ds mk s) g k (nI x0)))), ?_, ?_, fun post hp => xw_r hs ?_, fun post hp => yw_r hs ?_⟩
    rotate_left 2
    · rw [e1]; exact xe_2 hs (by omega) hk hx (by rw [hqX, hpX]; exact hu) (by rw [hqX, hpX]; exact hq) hp
    · rw [e2]
      have h0 := y2_l (post := post) (yz := wb_y yz ba ds mk s) (g := g) (k := k) (x0 := x0) (tP := th_v ds mk ((s + 4) % 6) s) (tQ := th_v ds mk ((s + 5) % 6) s) hgk hk hx ((hw _).mpr hq) (fun y hy c => by
        have := hu y (by omega) ((hw _).mp c)
        omega) hp x0 0 (wb_y yz ba ds mk s g) (wb_y yz ba ds mk s k) (by omega)
      have e3 : upd (upd (wb_y yz ba ds mk s) g (wb_y yz ba ds mk s g)) k (wb_y yz ba ds mk s k) = wb_y yz ba ds mk s := by rw [rb_ui, rb_ui]
      rw [e3] at h0
      exact ye_g hs (by omega) h0
    · exact ag_f2 (ag_f1 (ag_u (ag_u hXY rfl) (by rw [hpX, hv])))
    · exact by_f2 (by_f1 (by_u (by_u bX ⟨x0, hx, rfl⟩) (is_bx (by rw [hpX]; exact is_bx (bY 4 (by decide)) (by_D bY)) ⟨x0, hx, rfl⟩)))
end
