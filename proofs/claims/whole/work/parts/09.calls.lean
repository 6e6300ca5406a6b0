section
variable {wc dl ns nb ca dn sn bm : Int32} {ba ds mk wo vt bo us ws wv nt ys yv yz : Nat → Int32}
/-! both sides end with one answer in related states -/
def si_m (WX : (Int32 → SX → Prop) → Prop) (WY : (Int32 → SY → Prop) → Prop) : Prop := ∃ (r : Int32) (u' : SX) (v' : SY), rl_s u' v' ∧ (∀ post : Int32 → SX → Prop, post r u' → WX post) ∧ (∀ post : Int32 → SY → Prop, post r v' → WY post)
theorem si_e {WX : (Int32 → SX → Prop) → Prop} {WY : (Int32 → SY → Prop) → Prop} (h : si_m WX WY) : WX (fun r u' => WY (fun r' v' => r' = r ∧ rl_s u' v')) := by
  obtain ⟨r, u', v', R, hX, hY⟩ := h
  exact hX _ (hY _ ⟨rfl, R⟩)
theorem rl_m {w d s b c : Nat} (H : rl_i w d s b c ca ba ds mk bo us ws wv ys yv nt) : rl_s (nI w, nI d, nI s, nI b, ca, dn, nI c, bm, ba, ds, mk, wo, vt, bo, us, ws, wv, nt) (nI d, ca, nI c, bm, dn, nI w, nI b, nI s, ba, ds, mk, vt, bo, ys, yv, nt, yz) :=
  ⟨w, d, s, b, c, ca, dn, bm, ba, ds, mk, wo, vt, bo, us, ws, wv, nt, ys, yv, yz, rfl, rfl, H⟩
theorem i5_6 {x : Int32} (h : nI 6 ≤ x) : (5 : Int32) < x := Int32.lt_of_lt_of_le (by decide) h
theorem ge_0 {x : Int32} (n : Nat) (hn : n < 2 ^ 31) (h : nI n ≤ x) : ¬ x < 0 := by
  intro z
  exact nI_pos (n := n) hn (Int32.lt_of_le_of_lt h z)
theorem vo_r (p0 : Int32) : ∃ r : Int32, (r = 0 ∨ (r = 1 ∧ ∃ v : Nat, v < 6 ∧ p0 = nI v)) ∧ (∀ {wc dl ns nb ca dn sn bm : Int32} {ba ds mk wo bo us ws wv nt : Nat → Int32} (post : Int32 → Prop), post r → wpX_isVolume post (wc, dl, ns, nb, ca, dn, sn, bm, ba, ds, mk, wo, vt, bo, us, ws, wv, nt) p0) ∧ (∀ {dl ca sn bm dn wc nb ns : Int32} {ba ds mk bo ys yv nt yz : Nat → Int32} (post : Int32 → Prop), post r → wpY_isVolume post (dl, ca, sn, bm, dn, wc, nb, ns, ba, ds, mk, vt, bo, ys, yv, nt, yz) p0) := by
  rcases pk_ix p0 (n := 6) (by decide) with h | h | ⟨j, hj, rfl⟩
  · refine ⟨0, Or.inl rfl, ?_, ?_⟩
    · intros; exact br_t h (by assumption)
    · intros; exact br_t h (br_t rfl (by assumption))
  · have h0 := ge_0 6 (by decide) h
    refine ⟨0, Or.inl rfl, ?_, ?_⟩
    · intros; exact br_f h0 (br_t h (by assumption))
    · intros; exact br_f h0 (br_t (i5_6 h) (br_t rfl (by assumption)))
  · have h0 : ¬ nI j < 0 := nI_pos (by omega)
    have h6 : ¬ (6 : Int32) ≤ nI j := nI_ge (b := 6) hj (by decide)
    have h5 : ¬ (5 : Int32) < nI j := nI_nlt (a := 5) (b := j) (by omega) (by decide)
    have hin : vp_in (nI j) 6 := vp_in_nI hj (by omega)
    by_cases z : vt j = 0
    · refine ⟨0, Or.inl rfl, ?_, ?_⟩
      · intros
        refine br_f h0 (br_f h6 ⟨hin, ?_⟩)
        rw [nI_clamp (by omega)]
        exact br_t z (by assumption)
      · intros
        refine br_f h0 (br_f h5 (br_f (by decide) ⟨hin, ?_⟩))
        rw [nI_clamp (by omega)]
        exact br_t z (by assumption)
    · refine ⟨1, Or.inr ⟨rfl, j, hj, rfl⟩, ?_, ?_⟩
      · intros
        refine br_f h0 (br_f h6 ⟨hin, ?_⟩)
        rw [nI_clamp (by omega)]
        exact br_f z (by assumption)
      · intros
        refine br_f h0 (br_f h5 (br_f (by decide) ⟨hin, ?_⟩))
        rw [nI_clamp (by omega)]
        exact br_f z (by assumption)
theorem sl_r (p0 p1 : Int32) : ((∀ {wc dl ns nb ca dn sn bm : Int32} {ba ds mk wo bo us ws wv nt : Nat → Int32} (post : Int32 → Prop), post (-1) → wpX_slotOf post (wc, dl, ns, nb, ca, dn, sn, bm, ba, ds, mk, wo, vt, bo, us, ws, wv, nt) p0 p1) ∧ (∀ {dl ca sn bm dn wc nb ns : Int32} {ba ds mk bo ys yv nt yz : Nat → Int32} (post : Int32 → Prop), post 0 → wpY_isLblock post (dl, ca, sn, bm, dn, wc, nb, ns, ba, ds, mk, vt, bo, ys, yv, nt, yz) p0 p1)) ∨ (∃ v l : Nat, v < 6 ∧ l < 20 ∧ p0 = nI v ∧ p1 = nI l ∧ (∀ {wc dl ns nb ca dn sn bm : Int32} {ba ds mk wo bo us ws wv nt : Nat → Int32} (post : Int32 → Prop), post (nI (v * 20 + l)) → wpX_slotOf post (wc, dl, ns, nb, ca, dn, sn, bm, ba, ds, mk, wo, vt, bo, us, ws, wv, nt) p0 p1) ∧ (∀ {dl ca sn bm dn wc nb ns : Int32} {ba ds mk bo ys yv nt yz : Nat → Int32} (post : Int32 → Prop), post 1 → wpY_isLblock post (dl, ca, sn, bm, dn, wc, nb, ns, ba, ds, mk, vt, bo, ys, yv, nt, yz) p0 p1)) := by
  obtain ⟨r, hr, hX, hY⟩ := vo_r (vt := vt) p0
  rcases hr with rfl | ⟨rfl, v, hv, rfl⟩
  · refine Or.inl ⟨?_, ?_⟩
    · intros; unfold wpX_slotOf; dsimp only; exact hX _ (br_t rfl (by assumption))
    · intros; unfold wpY_isLblock; dsimp only; exact hY _ (br_t rfl (by assumption))
  · rcases pk_ix p1 (n := 20) (by decide) with h | h | ⟨l, hl, rfl⟩
    · refine Or.inl ⟨?_, ?_⟩
      · intros; unfold wpX_slotOf; dsimp only; exact hX _ (br_f (by decide) (br_t h (by assumption)))
      · intros; unfold wpY_isLblock; dsimp only; exact hY _ (br_f (by decide) (br_t h (br_t rfl (by assumption))))
    · have h0 := ge_0 20 (by decide) h
      have h20 : ¬ p1 < 20 := Int32.not_lt.mpr h
      have h19 : (19 : Int32) < p1 := Int32.lt_of_lt_of_le (by decide) h
      refine Or.inl ⟨?_, ?_⟩
      · intros; unfold wpX_slotOf; dsimp only; exact hX _ (br_f (by decide) (br_f h0 (br_f h20 (by assumption))))
      · intros; unfold wpY_isLblock; dsimp only; exact hY _ (br_f (by decide) (br_f h0 (br_t h19 (br_t rfl (by assumption)))))
    · have h0 : ¬ nI l < 0 := nI_pos (by omega)
      have h20 : nI l < (20 : Int32) := nI_lt (b := 20) hl (by decide)
      have h19 : ¬ (19 : Int32) < nI l := nI_nlt (a := 19) (b := l) (by omega) (by decide)
      refine Or.inr ⟨v, l, hv, hl, rfl, rfl, ?_, ?_⟩
      · intros
        unfold wpX_slotOf
        dsimp only
        refine hX _ (br_f (by decide) (br_f h0 (br_t h20 ?_)))
        rw [rb_slot]
        assumption
      · intros; unfold wpY_isLblock; dsimp only; exact hY _ (br_f (by decide) (br_f h0 (br_f h19 (br_f (by decide) (by assumption)))))
/-! write -/
theorem ap_x {post : Int32 → SX → Prop} {w : Nat} {p2 x : Int32} (hw : w < 6) (h : post 0 (nI (w + 1), dl, ns, nb, ca, dn, sn, bm, ba, ds, mk, wo, vt, bo, us, upd ws w x, upd wv w (p2 &&& 255), nt)) : wX_write_76 post p2 x (nI w) dl ns nb ca dn sn bm ba ds mk wo vt bo us ws wv nt := by
  refine ⟨vp_in_nI hw (by omega), ?_⟩
  rw [nI_clamp (by omega)]
  exact nm_e ⟨vp_in_nI hw (by omega), nm_e (nm_r (nI_1 w) h)⟩
theorem ap_y {post : Int32 → SY → Prop} {w : Nat} {x y : Int32} (hw : w < 6) (h : post 0 (dl, ca, sn, bm, dn, nI (w + 1), nb, ns, ba, ds, mk, vt, bo, upd ys w x, upd yv w y, nt, yz)) : wY_write_100 post x y dl ca sn bm dn (nI w) nb ns ba ds mk vt bo ys yv nt yz := by
  refine ⟨vp_in_nI hw (by omega), ?_⟩
  rw [nI_clamp (by omega)]
  exact nm_e ⟨vp_in_nI hw (by omega), nm_e (nm_r (nI_1 w) h)⟩
theorem rl_ad {w d s b c l : Nat} {x : Int32} (hl : l < 120) (hx : is_b x) (hw : w < d) (hn : ∀ j : Nat, j < w → ws j ≠ nI l) (H : rl_i w d s b c ca ba ds mk bo us ws wv ys yv nt) : rl_i (w + 1) d s b c ca ba ds mk bo us (upd ws w (nI l)) (upd wv w x) (upd ys w (nI l)) (upd yv w x) nt := by
  obtain ⟨hwd, hd, hs, hb, hc, hca, hby, hdk, hbo, hus, hwt, hnt⟩ := H
  exact ⟨hw, hd, hs, hb, hc, hca, hby, hdk, hbo, hus, wt_ad hl hx hwt hn, hnt⟩
theorem rl_wt {w d s b c w' : Nat} {ws' wv' ys' yv' : Nat → Int32} (H : rl_i w d s b c ca ba ds mk bo us ws wv ys yv nt) (hw : w' ≤ d) (hk : wt_k w' ws' wv' ys' yv') : rl_i w' d s b c ca ba ds mk bo us ws' wv' ys' yv' nt := by
  obtain ⟨hwd, hd, hs, hb, hc, hca, hby, hdk, hbo, hus, hwt, hnt⟩ := H
  exact ⟨hw, hd, hs, hb, hc, hca, hby, hdk, hbo, hus, hk, hnt⟩
theorem si_write {u : SX} {v : SY} (R : rl_s u v) (p0 p1 p2 : Int32) : si_m (fun post => wpX_write post u p0 p1 p2) (fun post => wpY_write post v p0 p1 p2) := by
  obtain ⟨w, d, s, b, c, ca, dn, bm, ba, ds, mk, wo, vt, bo, us, ws, wv, nt, ys, yv, yz, rfl, rfl, H⟩ := R
  by_cases hdn : dn = 0
  · rcases sl_r (vt := vt) p0 p1 with ⟨hX, hY⟩ | ⟨v, l, hv, hl, rfl, rfl, hX, hY⟩
    · exact ⟨-1, _, _, rl_m H, fun post hp => br_t hdn (hX _ (br_f rb_n1le hp)), fun post hp => br_t hdn (hY _ (br_t rfl hp))⟩
    · have hs : v * 20 + l < 120 := by omega
      have hwd := H.1
      have hd6 := H.2.1
      have p0' : (0 : Int32) ≤ nI (v * 20 + l) := nI_pos' (by omega)
      by_cases hd0 : d = 0
      · obtain ⟨r, w', s', b', ca', dn', ba', wo', bo', us', nt', yz', R, hr, wX, wY⟩ := wn_r (v := p2 &&& 255) (dn := dn) (bm := bm) (wo := wo) (vt := vt) (yz := yz) hs (is_ba p2) H
        have e0 : nI d = 0 := by rw [hd0]; rfl
        exact ⟨r, _, _, rl_m R, fun post hp => br_t hdn (hX _ (br_t p0' (br_t e0 (wX _ hp)))), fun post hp => br_t hdn (hY _ (br_f (by decide) (nm_r (rb_slot' v l) (nm_e (br_t e0 (wY _ hp))))))⟩
      · have e0 : ¬ nI d = 0 := nI_ne0 (by omega) (by omega)
        obtain ⟨r, w', ws', wv', ys', yv', hk, hn, hlt, hge, fX, fY, fZ⟩ := fg_r (l := v * 20 + l) (by omega) H.2.2.2.2.2.2.2.2.2.2.1
        by_cases hr : r < 0
        · obtain ⟨rfl, rfl, rfl, rfl, rfl⟩ := hlt hr
          by_cases hfull : w' = d
          · obtain ⟨r2, w2, s2, b2, ca2, dn2, ba2, wo2, bo2, us2, ws2, wv2, nt2, ys2, yv2, yz2, R2, hr2, hr3, wX, wY⟩ := ww_r (a := 0) (dn := dn) (bm := bm) (wo := wo) (vt := vt) (yz := yz) (by omega) H
            by_cases z : r2 = 0
            · have hw2 := hr2 z
              have hn2 : ∀ j : Nat, j < w2 → ws2 j ≠ nI (v * 20 + l) := by
                intro j hj
                obtain ⟨m, hm, e⟩ := sh_at (a := ws') (i := 0) hj
                rw [hr3 z, e]
                exact hn m (by omega)
              exact ⟨0, _, _, rl_m (rl_ad hs (is_ba p2) (by omega) hn2 R2), fun post hp => br_t hdn (hX _ (br_t p0' (br_f e0 (fX _ (br_f (nI_nlt (by omega) (by omega)) (wX _ (br_t z (ap_x (by omega) hp)))))))), fun post hp => br_t hdn (hY _ (br_f (by decide) (nm_r (rb_slot' v l) (nm_e (br_f e0 (fY _ (br_t hr (br_t (by rw [hfull]) (wY _ (br_t z (ap_y (by omega) hp)))))))))))⟩
            · exact ⟨r2, _, _, rl_m R2, fun post hp => br_t hdn (hX _ (br_t p0' (br_f e0 (fX _ (br_f (nI_nlt (by omega) (by omega)) (wX _ (br_f z hp))))))), fun post hp => br_t hdn (hY _ (br_f (by decide) (nm_r (rb_slot' v l) (nm_e (br_f e0 (fY _ (br_t hr (br_t (by rw [hfull]) (wY _ (br_f z hp))))))))))⟩
          · exact ⟨0, _, _, rl_m (rl_ad hs (is_ba p2) (by omega) hn H), fun post hp => br_t hdn (hX _ (br_t p0' (br_f e0 (fX _ (br_t (nI_lt (by omega) (by omega)) (ap_x (by omega) hp)))))), fun post hp => br_t hdn (hY _ (br_f (by decide) (nm_r (rb_slot' v l) (nm_e (br_f e0 (fY _ (br_t hr (br_f (fun z => hfull ((nI_eq (by omega) (by omega)).mp z)) (ap_y (by omega) hp)))))))))⟩
        · have hw' := (hge hr).1
          exact ⟨0, _, _, rl_m (rl_ad hs (is_ba p2) (by omega) hn (rl_wt H (by omega) hk)), fun post hp => br_t hdn (hX _ (br_t p0' (br_f e0 (fX _ (br_t (nI_lt (by omega) (by omega)) (ap_x (by omega) hp)))))), fun post hp => br_t hdn (hY _ (br_f (by decide) (nm_r (rb_slot' v l) (nm_e (br_f e0 (fY _ (br_f hr (fZ hr _ (ap_y (by omega) hp)))))))))⟩
  · exact ⟨-4, _, _, rl_m H, fun post hp => br_f hdn hp, fun post hp => br_f hdn hp⟩
/-! delay -/
theorem rl_dl {w d s b c n : Nat} (H : rl_i w d s b c ca ba ds mk bo us ws wv ys yv nt) (h1 : w ≤ n) (h2 : n ≤ 6) : rl_i w n s b c ca ba ds mk bo us ws wv ys yv nt := by
  obtain ⟨hwd, hd, hs, hb, hc, hca, hby, hdk, hbo, hus, hwt, hnt⟩ := H
  exact ⟨h1, h2, hs, hb, hc, hca, hby, hdk, hbo, hus, hwt, hnt⟩
theorem si_delay {u : SX} {v : SY} (R : rl_s u v) (p0 : Int32) : si_m (fun post => wpX_delay post u p0) (fun post => wpY_delay post v p0) := by
  obtain ⟨w, d, s, b, c, ca, dn, bm, ba, ds, mk, wo, vt, bo, us, ws, wv, nt, ys, yv, yz, rfl, rfl, H⟩ := R
  have hw6 : w ≤ 6 := Nat.le_trans H.1 H.2.1
  rcases pk_ix p0 (n := 7) (by decide) with h | h | ⟨n, hn, rfl⟩
  · exact ⟨0, _, _, rl_m H, fun post hp => br_t (Int32.lt_of_lt_of_le h (nI_pos' (by omega))) hp, fun post hp => br_t h (br_t rfl hp)⟩
  · have h0 := ge_0 7 (by decide) h
    have h6 : (6 : Int32) < p0 := Int32.lt_of_lt_of_le (by decide) h
    exact ⟨0, _, _, rl_m H, fun post hp => br_c (fun _ => hp) (fun _ => br_f (Int32.not_le.mpr h6) hp), fun post hp => br_f h0 (br_t h6 (br_t rfl hp))⟩
  · have h0 : ¬ nI n < 0 := nI_pos (by omega)
    have h6 : nI n ≤ (6 : Int32) := nI_le (b := 6) (by omega) (by decide)
    have h6' : ¬ (6 : Int32) < nI n := nI_nlt (a := 6) (b := n) (by omega) (by decide)
    by_cases c1 : n < w
    · exact ⟨0, _, _, rl_m H, fun post hp => br_t (nI_lt c1 (by omega)) hp, fun post hp => br_f h0 (br_f h6' (br_f (by decide) (br_f (nI_ge c1 (by omega)) hp)))⟩
    · exact ⟨1, _, _, rl_m (rl_dl H (by omega) (by omega : n ≤ 6)), fun post hp => br_f (nI_nlt (by omega) (by omega)) (br_t h6 hp), fun post hp => br_f h0 (br_f h6' (br_f (by decide) (br_t (nI_le (by omega) (by omega)) hp)))⟩
/-! flush -/
theorem fl_l {n d : Nat} (hn : n ≤ 6) : ∀ (e i : Nat) (w s b c : Nat) (ca dn bm : Int32) (ba ds mk wo vt bo us ws wv nt ys yv yz : Nat → Int32), i + e = n → rl_i w d s b c ca ba ds mk bo us ws wv ys yv nt → si_m (fun post => wX_flush_27 post (nI n) (e + 1) (nI i) (nI i) (nI w) (nI d) (nI s) (nI b) ca dn (nI c) bm ba ds mk wo vt bo us ws wv nt) (fun post => wY_flush_24 post (nI n) (e + 1) (nI i) (nI d) ca (nI c) bm dn (nI w) (nI b) (nI s) ba ds mk vt bo ys yv nt yz) := by
  intro e
  induction e with
  | zero =>
    intro i w s b c ca dn bm ba ds mk wo vt bo us ws wv nt ys yv yz hi H
    have hi : i = n := by omega
    subst hi
    exact ⟨nI i, _, _, rl_m H, fun post hp => br_t (nI_le (Nat.le_refl i) (by omega)) hp, fun post hp => br_t (nI_le (Nat.le_refl i) (by omega)) hp⟩
  | succ e ih =>
    intro i w s b c ca dn bm ba ds mk wo vt bo us ws wv nt ys yv yz hi H
    have hge : ¬ nI n ≤ nI i := nI_ge (by omega) (by omega)
    have hw6 : w ≤ 6 := Nat.le_trans H.1 H.2.1
    by_cases h0 : w = 0
    · have e0 : nI w ≤ 0 := (rb_le0 (by omega)).mpr h0
      exact ⟨nI i, _, _, rl_m H, fun post hp => br_f hge (br_t e0 hp), fun post hp => br_f hge (br_t e0 hp)⟩
    · have e0 : ¬ nI w ≤ 0 := nI_nle (by omega) (by omega)
      obtain ⟨r2, w2, s2, b2, ca2, dn2, ba2, wo2, bo2, us2, ws2, wv2, nt2, ys2, yv2, yz2, R2, hr2, _, wX, wY⟩ := ww_r (a := 0) (dn := dn) (bm := bm) (wo := wo) (vt := vt) (yz := yz) (by omega) H
      by_cases z : r2 = 0
      · obtain ⟨r, u', v', R, hX, hY⟩ := ih (i + 1) w2 s2 b2 c ca2 dn2 bm ba2 ds mk wo2 vt bo2 us2 ws2 wv2 nt2 ys2 yv2 yz2 (by omega) R2
        exact ⟨r, u', v', R, fun post hp => br_f hge (br_f e0 (wX _ (br_t z (nm_r (nI_1 i) (nm_r (nI_1 i) (hX post hp)))))), fun post hp => br_f hge (br_f e0 (wY _ (br_t z (nm_r (nI_1 i) (hY post hp)))))⟩
      · exact ⟨nI i, _, _, rl_m R2, fun post hp => br_f hge (br_f e0 (wX _ (br_f z hp))), fun post hp => br_f hge (br_f e0 (wY _ (br_f z hp)))⟩
theorem si_flush {u : SX} {v : SY} (R : rl_s u v) (p0 : Int32) : si_m (fun post => wpX_flush post u p0) (fun post => wpY_flush post v p0) := by
  obtain ⟨w, d, s, b, c, ca, dn, bm, ba, ds, mk, wo, vt, bo, us, ws, wv, nt, ys, yv, yz, rfl, rfl, H⟩ := R
  by_cases hdn : dn = 0
  · rcases pk_ix p0 (n := 7) (by decide) with h | h | ⟨n, hn, rfl⟩
    · have h1 : p0 < 1 := Int32.lt_trans h (by decide)
      exact ⟨-1, _, _, rl_m H, fun post hp => br_t hdn (br_t h1 hp), fun post hp => br_t hdn (br_t h1 (br_t rfl hp))⟩
    · have h1 : ¬ p0 < 1 := Int32.not_lt.mpr (Int32.le_trans (by decide) h)
      have h6 : (6 : Int32) < p0 := Int32.lt_of_lt_of_le (by decide) h
      exact ⟨-1, _, _, rl_m H, fun post hp => br_t hdn (br_f h1 (br_f (Int32.not_le.mpr h6) hp)), fun post hp => br_t hdn (br_f h1 (br_t h6 (br_t rfl hp)))⟩
    · by_cases h0 : n = 0
      · subst h0
        exact ⟨-1, _, _, rl_m H, fun post hp => br_t hdn (br_t (by decide) hp), fun post hp => br_t hdn (br_t (by decide) (br_t rfl hp))⟩
      · have h1 : ¬ nI n < 1 := nI_nlt (b := 1) (by omega) (by omega)
        have h6 : nI n ≤ (6 : Int32) := nI_le (b := 6) (by omega) (by decide)
        have h6' : ¬ (6 : Int32) < nI n := nI_nlt (a := 6) (b := n) (by omega) (by decide)
        obtain ⟨r, u', v', R, hX, hY⟩ := fl_l (n := n) (by omega) n 0 w s b c ca dn bm ba ds mk wo vt bo us ws wv nt ys yv yz (by omega) H
        exact ⟨r, u', v', R, fun post hp => br_t hdn (br_f h1 (br_t h6 ⟨_, hX post hp⟩)), fun post hp => br_t hdn (br_f h1 (br_f h6' (br_f (by decide) ⟨_, hY post hp⟩)))⟩
  · exact ⟨-4, _, _, rl_m H, fun post hp => br_f hdn hp, fun post hp => br_f hdn hp⟩
end
