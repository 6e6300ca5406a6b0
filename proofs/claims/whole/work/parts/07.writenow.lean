section
variable {wc dl ns nb ca dn sn bm : Int32} {ba ds mk wo vt bo us ws wv nt ys yv yz : Nat → Int32}
/-! the noted bytes are put -/
def st_o (b i : Nat) : Nat := if i = 0 then b % 4 else 3 + i
def pt_z (ba ds mk : Nat → Int32) (s z : Nat) (x : Int32) : Nat → Int32 := if th_v ds mk ((s + z) % 6) s = 0 then ba else upd ba ((s + z) % 6 * 16 + s) x
def pt_a (ba ds mk nt : Nat → Int32) (b : Nat) : Nat → Nat → Int32
  | 0 => ba
  | i + 1 => pt_z (pt_a ba ds mk nt b i) ds mk (b / 4) (st_o b i) (nt i)
theorem pt_b {b : Nat} (hb : b < 64) (h : by_k ba) (hn : nt_k nt) : ∀ m : Nat, m ≤ 3 → by_k (pt_a ba ds mk nt b m) := by
  intro m
  induction m with
  | zero => intro _; exact h
  | succ m ih =>
    intro hm j hj
    show is_b (pt_z (pt_a ba ds mk nt b m) ds mk (b / 4) (st_o b m) (nt m) j)
    unfold pt_z
    split
    · exact ih (by omega) j hj
    · unfold upd
      split
      · exact hn m (by omega)
      · exact ih (by omega) j hj
theorem xn_37 {post : SX → Prop} {J : Int32 → (Nat → Int32) → (Nat → Int32) → (Nat → Int32) → (Nat → Int32) → (Nat → Int32) → (Nat → Int32) → (Nat → Int32) → (Nat → Int32) → (Nat → Int32) → (Nat → Int32) → Prop} {x1 : Int32} {s i z : Nat} (hs : s < 16) (hi : i < 3) (hz : z < 6) (h : J (nI (i + 1)) (pt_z ba ds mk s z (nt i)) ds mk wo vt bo us ws wv nt) : wX_putNoted_37 post J x1 (nI s) (nI i) (nI z) wc dl ns nb ca dn sn bm ba ds mk wo vt bo us ws wv nt := by
  refine ⟨rb_6, nm_r (rb_dk (by omega) (by omega)) (xt_r (Nat.mod_lt _ (by decide)) hs (br_c (fun c => nm_r (nI_1 i) ?_) (fun c => ⟨vp_in_nI hi (by omega), pk_in ((s + z) % 6 * 16 + s) 96 (by omega) (rb_cell _ _), ?_⟩)))⟩
  · rw [pt_z, if_pos c] at h; exact h
  · rw [pt_z, if_neg c] at h
    rw [rb_cell, nI_clamp (by omega), nI_clamp (by omega)]
    exact nm_e (nm_r (nI_1 i) h)
theorem rb_41 (i : Nat) : (4 + nI (i + 1)) - 1 = nI (3 + (i + 1)) := by
  rw [show (4 : Int32) = nI 4 from rfl, nI_add, show 4 + (i + 1) = (3 + (i + 1)) + 1 by omega, nI_pred]
theorem st_6 {b i : Nat} (hi : i < 3) : st_o b i < 6 := by
  unfold st_o
  split <;> omega
theorem xn_l {post : SX → Prop} {b m : Nat} (hb : b < 64) (hm : m ≤ 3) (h : post (wc, dl, ns, nI b, ca, dn, sn, bm, pt_a ba ds mk nt b m, ds, mk, wo, vt, bo, us, ws, wv, nt)) : ∀ e i : Nat, i + e = m → wX_putNoted_9 post (nI m) (nI (b / 4)) wc dl ns (nI b) ca dn sn bm (e + 1) (nI i) (pt_a ba ds mk nt b i) ds mk wo vt bo us ws wv nt := by
  intro e
  induction e with
  | zero =>
    intro i hi
    rw [show i = m by omega]
    exact br_t (nI_le (Nat.le_refl m) (by omega)) h
  | succ e ih =>
    intro i hi
    have ih := ih (i + 1) (by omega)
    refine br_f (nI_ge (by omega) (by omega)) (br_f (nI_ge (b := 3) (by omega) (by decide)) (pk_eq i 0 (fun z => ⟨rb_4, ?_⟩) (fun z => ?_)))
    · rw [rb_r4 (by omega)]
      have e1 : b % 4 = st_o b i := by rw [st_o, if_pos z]
      rw [e1]
      exact xn_37 (by omega) (by omega) (st_6 (by omega)) ih
    · obtain ⟨j, rfl⟩ : ∃ j, i = j + 1 := ⟨i - 1, by omega⟩
      rw [rb_41]
      have e1 : 3 + (j + 1) = st_o b (j + 1) := by rw [st_o, if_neg (by omega)]
      rw [e1]
      exact xn_37 (by omega) (by omega) (st_6 (by omega)) ih
theorem xn_r {post : SX → Prop} {b m : Nat} (hb : b < 64) (hm : m ≤ 3) (h : post (wc, dl, ns, nI b, ca, dn, sn, bm, pt_a ba ds mk nt b m, ds, mk, wo, vt, bo, us, ws, wv, nt)) : wpX_putNoted post (wc, dl, ns, nI b, ca, dn, sn, bm, ba, ds, mk, wo, vt, bo, us, ws, wv, nt) (nI m) :=
  ⟨rb_4, nm_r (rb_d4 (by omega)) ⟨m + 1, xn_l hb hm h m 0 (by omega)⟩⟩
theorem yp_u {post : SY → Prop} {s z : Nat} {x : Int32} (hs : s < 16) (hz : z < 6) (h : post (dl, ca, sn, bm, dn, wc, nb, ns, pt_z ba ds mk s z x, ds, mk, vt, bo, ys, yv, nt, yz)) : wpY_put post (dl, ca, sn, bm, dn, wc, nb, ns, ba, ds, mk, vt, bo, ys, yv, nt, yz) (nI s) (nI z) x := by
  unfold pt_z at h
  refine yh_r hs hz (br_c (fun c => ?_) (fun c => yc_r hs hz ⟨vp_in_nI (by omega) (by omega), ?_⟩))
  · rw [if_pos c] at h; exact h
  · rw [if_neg c] at h
    rw [nI_clamp (by omega)]
    exact nm_e h
theorem yn_3 {post : SY → Prop} {s z i : Nat} (hs : s < 16) (hz : z < 6) (hi : i < 3) (h : post (dl, ca, sn, bm, dn, wc, nb, ns, pt_z ba ds mk s z (nt i), ds, mk, vt, bo, ys, yv, nt, yz)) : wY_putNoted_30 post (nI i) (nI z) (nI s) dl ca sn bm dn wc nb ns ba ds mk vt bo ys yv nt yz := by
  refine ⟨vp_in_nI hi (by omega), ?_⟩
  rw [nI_clamp (by omega)]
  exact yp_u hs hz h
theorem yn_r {post : SY → Prop} {b i : Nat} (hb : b < 64) (hi : i < 3) (h : post (dl, ca, sn, bm, dn, wc, nI b, ns, pt_z ba ds mk (b / 4) (st_o b i) (nt i), ds, mk, vt, bo, ys, yv, nt, yz)) : wpY_putNoted post (dl, ca, sn, bm, dn, wc, nI b, ns, ba, ds, mk, vt, bo, ys, yv, nt, yz) (nI i) := by
  refine ⟨rb_4, ?_⟩
  rw [rb_d4 (by omega)]
  match i, hi with
  | 0, _ =>
    refine br_t rfl ⟨rb_4, ?_⟩
    rw [show nI b - nI (b / 4) * 4 = nI b - nI b / 4 * 4 by rw [rb_d4 (by omega)], rb_r4 (by omega)]
    exact yn_3 (by omega) (by omega) (by decide) h
  | 1, _ => exact br_f (by decide) (br_t rfl (yn_3 (z := 4) (i := 1) (by omega) (by decide) (by decide) h))
  | 2, _ => exact br_f (by decide) (br_f (by decide) (yn_3 (z := 5) (i := 2) (by omega) (by decide) (by decide) h))
theorem yn_w {post : Int32 → SY → Prop} {b l n i : Nat} {x : Int32} (hb : b < 64) (hi : i < 3) (h : wY_writeNow_176 post (nI l) x n (nI (i + 1)) dl ca sn bm dn wc (nI b) ns (pt_z ba ds mk (b / 4) (st_o b i) (nt i)) ds mk vt bo ys yv nt yz) : wY_writeNow_176 post (nI l) x (n + 1) (nI i) dl ca sn bm dn wc (nI b) ns ba ds mk vt bo ys yv nt yz :=
  br_f (nI_ge (b := 3) hi (by decide)) (yn_r hb hi (nm_r (nI_1 i) h))
theorem yn_c {post : Int32 → SY → Prop} {b c n i : Nat} (hb : b < 64) (hc : c < 3) (hi : i < c) (h : wY_writeNow_134 post n (nI (i + 1)) dl (nI c) sn bm dn wc (nI b) ns (pt_z ba ds mk (b / 4) (st_o b i) (nt i)) ds mk vt bo ys yv nt yz) : wY_writeNow_134 post (n + 1) (nI i) dl (nI c) sn bm dn wc (nI b) ns ba ds mk vt bo ys yv nt yz :=
  br_f (nI_ge hi (by omega)) (yn_r hb (by omega) (nm_r (nI_1 i) h))
theorem yn_v {post : Int32 → SY → Prop} {b n i : Nat} (hb : b < 64) (hi : i < 3) (h : wY_recover_16 post n (nI (i + 1)) dl ca sn bm dn wc (nI b) ns (pt_z ba ds mk (b / 4) (st_o b i) (nt i)) ds mk vt bo ys yv nt yz) : wY_recover_16 post (n + 1) (nI i) dl ca sn bm dn wc (nI b) ns ba ds mk vt bo ys yv nt yz :=
  br_f (nI_ge (b := 3) hi (by decide)) (yn_r hb hi (nm_r (nI_1 i) h))
/-! a writing is noted -/
theorem xnw_r {post : SX → Prop} {l b : Nat} {v : Int32} (hb : b < 64) (h : post (wc, dl, nI l, nI b, ca, dn, sn, bm, ba, ds, mk, upd wo (b % 4) v, vt, bo, us, ws, wv, upd (upd (upd nt 0 v) 1 (sm_D (upd wo (b % 4) v))) 2 (sm_P (upd wo (b % 4) v)))) : wpX_noteWriting post (wc, dl, ns, nb, ca, dn, sn, bm, ba, ds, mk, wo, vt, bo, us, ws, wv, nt) (nI l) (nI b) v := by
  refine ⟨rb_4, pk_in (b % 4) 6 (by omega) (rb_r4 (by omega)), ?_⟩
  rw [rb_r4 (by omega), nI_clamp (by omega)]
  exact nm_e (nm_e (xd_r (nm_e (xs_r (nm_e h)))))
theorem nt_p {a : Nat → Int32} {v : Int32} (ha : by_6 a) (hv : is_b v) : nt_k (upd (upd (upd nt 0 v) 1 (sm_D a)) 2 (sm_P a)) := by
  intro i hi
  match i, hi with
  | 0, _ => exact hv
  | 1, _ => exact by_D ha
  | 2, _ => exact by_P ha
/-- a writing: one answer, and related ends; those that wait stay where they are -/
theorem wn_r {w d s b c l : Nat} {v : Int32} (hl : l < 120) (hv : is_b v) (H : rl_i w d s b c ca ba ds mk bo us ws wv ys yv nt) : ∃ (r : Int32) (w' s' b' : Nat) (ca' dn' : Int32) (ba' wo' bo' us' nt' yz' : Nat → Int32), rl_i w' d s' b' c ca' ba' ds mk bo' us' ws wv ys yv nt' ∧ (r = 0 → w' = w) ∧ (∀ post : Int32 → SX → Prop, post r (nI w', nI d, nI s', nI b', ca', dn', nI c, bm, ba', ds, mk, wo', vt, bo', us', ws, wv, nt') → wpX_writeNow post (nI w, nI d, nI s, nI b, ca, dn, nI c, bm, ba, ds, mk, wo, vt, bo, us, ws, wv, nt) (nI l) v) ∧ (∀ post : Int32 → SY → Prop, post r (nI d, ca', nI c, bm, dn', nI w', nI b', nI s', ba', ds, mk, vt, bo', ys, yv, nt', yz') → wpY_writeNow post (nI d, ca, nI c, bm, dn, nI w, nI b, nI s, ba, ds, mk, vt, bo, ys, yv, nt, yz) (nI l) v) := by
  obtain ⟨hwd, hd, hs, hb, hc, hca, hby, hdk, hbo, hus, hwt, hnt⟩ := H
  obtain ⟨k, hk, hX, hY⟩ := bw_r (wc := nI w) (dl := nI d) (ns := nI s) (nb := nI b) (ca := ca) (dn := dn) (sn := nI c) (bm := bm) (ba := ba) (ds := ds) (mk := mk) (wo := wo) (vt := vt) (ws := ws) (wv := wv) (nt := nt) (ys := ys) (yv := yv) (yz := yz) hl hbo hus
  by_cases h64 : k = 64
  · refine ⟨-2, w, s, b, ca, dn, ba, wo, bo, us, nt, yz, ⟨hwd, hd, hs, hb, hc, hca, hby, hdk, hbo, hus, hwt, hnt⟩, fun _ => rfl, fun post hp => ?_, fun post hp => ?_⟩
    · refine hX _ ?_
      rw [if_pos h64]
      exact br_f rb_n1le hp
    · refine hY _ _ ?_
      rw [h64]
      exact br_t rfl hp
  · have hk4 : k / 4 < 16 := by omega
    by_cases hlo : lo_v ds mk (k / 4) = 0
    · obtain ⟨wo', yz', hag, hb6, fX, fY⟩ := fw_r (wc := nI w) (dl := nI d) (ns := nI s) (nb := nI b) (ca := ca) (dn := dn) (sn := nI c) (bm := bm) (wo := wo) (vt := vt) (bo := bo) (us := us) (ws := ws) (wv := wv) (nt := nt) (ys := ys) (yv := yv) (yz := yz) hk4 hby hlo
      have hag' : ag_6 (upd wo' (k % 4) v) (upd yz' (k % 4) v) := ag_u hag rfl
      have hntN := nt_p (nt := nt) (by_u (k := k % 4) hb6 hv) hv
      have hbN : bk_k (nI k) := Or.inr ⟨k, by omega, rfl⟩
      rcases hca with rfl | ⟨e, he, rfl⟩
      · refine ⟨0, w, l, k, -1, dn, pt_a ba ds mk (upd (upd (upd nt 0 v) 1 (sm_D (upd wo' (k % 4) v))) 2 (sm_P (upd wo' (k % 4) v))) k 3, upd wo' (k % 4) v, upd bo l (nI k), pu_i (pu_d us (bo l)) (nI k), upd (upd (upd nt 0 v) 1 (sm_D (upd wo' (k % 4) v))) 2 (sm_P (upd wo' (k % 4) v)), upd yz' (k % 4) v, ⟨hwd, hd, hl, by omega, hc, Or.inl rfl, pt_b (by omega) hby hntN 3 (by decide), hdk, bo_p hbN hbo, us_p hl hbN hbo hus, hwt, hntN⟩, fun _ => rfl, fun post hp => ?_, fun post hp => ?_⟩
        · refine hX _ ?_
          rw [if_neg h64]
          refine br_t (nI_pos' (by omega)) ⟨rb_4, ?_⟩
          rw [rb_d4 (by omega)]
          exact xl_r hk4 (br_t hlo ⟨rb_4, fX _ (xnw_r (by omega) (br_t rfl (xn_r (m := 3) (by omega) (by decide) (xo_p hl hbN hbo hp))))⟩)
        · refine hY _ _ (pk_eq k 64 (fun z => absurd z h64) (fun _ => ⟨rb_4, nm_r (rb_d4 (by omega)) ⟨rb_4, nm_r (rb_r4 (by omega)) (yl_r hk4 (br_t hlo (fY _ ⟨vp_in_nI (by omega) (by omega), ?_⟩)))⟩⟩))
          rw [nI_clamp (by omega)]
          refine nm_e (nm_e (yd_r (nm_e (ys_r (nm_e (br_t rb_n1lt ⟨4, ?_⟩))))))
          rw [← ag_D hag', ← ag_P hag']
          refine yn_w (i := 0) (by omega) (by decide) (yn_w (i := 1) (by omega) (by decide) (yn_w (i := 2) (by omega) (by decide) (br_t (by decide) ⟨vp_in_nI hl (by omega), ?_⟩)))
          rw [nI_clamp (by omega)]
          exact nm_e hp
      · refine ⟨-4, 0, l, k, -1, 1, pt_a ba ds mk (upd (upd (upd nt 0 v) 1 (sm_D (upd wo' (k % 4) v))) 2 (sm_P (upd wo' (k % 4) v))) k e, upd wo' (k % 4) v, bo, us, upd (upd (upd nt 0 v) 1 (sm_D (upd wo' (k % 4) v))) 2 (sm_P (upd wo' (k % 4) v)), upd yz' (k % 4) v, ⟨by omega, hd, hl, by omega, hc, Or.inl rfl, pt_b (by omega) hby hntN e (by omega), hdk, hbo, hus, ⟨fun i hi => absurd hi (by omega), fun i j _ hj => absurd hj (by omega)⟩, hntN⟩, fun z => absurd z (by decide), fun post hp => ?_, fun post hp => ?_⟩
        · refine hX _ ?_
          rw [if_neg h64]
          refine br_t (nI_pos' (by omega)) ⟨rb_4, ?_⟩
          rw [rb_d4 (by omega)]
          exact xl_r hk4 (br_t hlo ⟨rb_4, fX _ (xnw_r (by omega) (br_f (rb_ne1 (by omega)) (xn_r (m := e) (by omega) (by omega) hp)))⟩)
        · refine hY _ _ (pk_eq k 64 (fun z => absurd z h64) (fun _ => ⟨rb_4, nm_r (rb_d4 (by omega)) ⟨rb_4, nm_r (rb_r4 (by omega)) (yl_r hk4 (br_t hlo (fY _ ⟨vp_in_nI (by omega) (by omega), ?_⟩)))⟩⟩))
          rw [nI_clamp (by omega)]
          refine nm_e (nm_e (yd_r (nm_e (ys_r (nm_e (br_f (nI_pos (by omega)) ⟨e + 1, ?_⟩))))))
          rw [← ag_D hag', ← ag_P hag']
          match e, he with
          | 0, _ => exact br_t (by decide) hp
          | 1, _ => exact yn_c (i := 0) (by omega) (by decide) (by decide) (br_t (by decide) hp)
          | 2, _ => exact yn_c (i := 0) (by omega) (by decide) (by decide) (yn_c (i := 1) (by omega) (by decide) (by decide) (br_t (by decide) hp))
    · refine ⟨-3, w, s, b, ca, dn, ba, wo, bo, us, nt, yz, ⟨hwd, hd, hs, hb, hc, hca, hby, hdk, hbo, hus, hwt, hnt⟩, fun _ => rfl, fun post hp => ?_, fun post hp => ?_⟩
      · refine hX _ ?_
        rw [if_neg h64]
        refine br_t (nI_pos' (by omega)) ⟨rb_4, ?_⟩
        rw [rb_d4 (by omega)]
        exact xl_r hk4 (br_f hlo hp)
      · exact hY _ _ (pk_eq k 64 (fun z => absurd z h64) (fun _ => ⟨rb_4, nm_r (rb_d4 (by omega)) ⟨rb_4, nm_r (rb_r4 (by omega)) (yl_r hk4 (br_f hlo hp))⟩⟩))
end
