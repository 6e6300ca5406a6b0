section
variable {wc dl ns nb ca dn sn bm : Int32} {ba ds mk wo vt bo us ws wv nt ys yv yz : Nat → Int32}
/-! read -/
theorem si_read {u : SX} {v : SY} (R : rl_s u v) (p0 p1 : Int32) : si_m (fun post => wpX_read post u p0 p1) (fun post => wpY_read post v p0 p1) := by
  obtain ⟨w, d, s, b, c, ca, dn, bm, ba, ds, mk, wo, vt, bo, us, ws, wv, nt, ys, yv, yz, rfl, rfl, H⟩ := R
  by_cases hdn : dn = 0
  · rcases sl_r (vt := vt) p0 p1 with ⟨hX, hY⟩ | ⟨v, l, hv, hl, rfl, rfl, hX, hY⟩
    · exact ⟨-1, _, _, rl_m H, fun post hp => br_t hdn (hX _ (br_f rb_n1le hp)), fun post hp => br_t hdn (hY _ (br_t rfl hp))⟩
    · have hs : v * 20 + l < 120 := by omega
      have hw6 : w ≤ 6 := Nat.le_trans H.1 H.2.1
      have hby := H.2.2.2.2.2.2.1
      have hbo := H.2.2.2.2.2.2.2.2.1
      have hwt := H.2.2.2.2.2.2.2.2.2.2.1
      have p0' : (0 : Int32) ≤ nI (v * 20 + l) := nI_pos' (by omega)
      have hin : vp_in (nI (v * 20 + l)) 120 := vp_in_nI hs (by omega)
      obtain ⟨r, hr, fX, fY⟩ := wa_r (l := v * 20 + l) hw6 hwt
      rcases hr with ⟨rfl, _⟩ | ⟨a, ha, rfl, _⟩
      · rcases hbo (v * 20 + l) hs with e | ⟨k, hk, e⟩
        · refine ⟨0, _, _, rl_m (dn := dn) (bm := bm) (wo := wo) (vt := vt) (yz := yz) H, fun post hp => br_t hdn (hX _ (br_t p0' (fX _ (br_t rb_n1lt ⟨hin, ?_⟩)))), fun post hp => br_t hdn (hY _ (br_f (by decide) (nm_r (rb_slot' v l) (fY _ ⟨hin, ?_⟩))))⟩
          · rw [nI_clamp (by omega), e]; exact nm_e (br_f rb_n1le hp)
          · rw [nI_clamp (by omega), e]; exact nm_e (br_t rb_n1lt (br_f rb_n1le hp))
        · have hk4 : k / 4 < 16 := by omega
          have k0 : (0 : Int32) ≤ nI k := nI_pos' (by omega)
          have hcell : ((k / 4 + k % 4) % 6 * 16 + k / 4) < 96 := by omega
          by_cases ht : th_v ds mk ((k / 4 + k % 4) % 6) (k / 4) = 0
          · by_cases hlo : lo_v ds mk (k / 4) = 0
            · obtain ⟨wo', yz', hag, _, gX, gY⟩ := fw_r (wc := nI w) (dl := nI d) (ns := nI s) (nb := nI b) (ca := ca) (dn := dn) (sn := nI c) (bm := bm) (wo := wo) (vt := vt) (bo := bo) (us := us) (ws := ws) (wv := wv) (nt := nt) (ys := ys) (yv := yv) (yz := yz) hk4 hby hlo
              refine ⟨wo' (k % 4), _, _, rl_m (dn := dn) (bm := bm) (wo := wo') (vt := vt) (yz := yz') H, fun post hp => br_t hdn (hX _ (br_t p0' (fX _ (br_t rb_n1lt ⟨hin, ?_⟩)))), fun post hp => br_t hdn (hY _ (br_f (by decide) (nm_r (rb_slot' v l) (fY _ ⟨hin, ?_⟩))))⟩
              · rw [nI_clamp (by omega), e]
                refine nm_e (br_t k0 ⟨rb_4, nm_r (rb_d4 (by omega)) ⟨rb_4, nm_r (rb_r4 (by omega)) ⟨rb_6, nm_r (rb_dk (by omega) (by omega)) (xt_r (Nat.mod_lt _ (by decide)) hk4 (br_t ht (xl_r hk4 (br_t hlo (gX _ ⟨vp_in_nI (by omega) (by omega), ?_⟩)))))⟩⟩⟩)
                rw [nI_clamp (by omega)]
                exact hp
              · rw [nI_clamp (by omega), e]
                refine nm_e (br_t rb_n1lt (br_t k0 ⟨rb_4, nm_r (rb_d4 (by omega)) ⟨rb_4, nm_r (rb_r4 (by omega)) (yh_r hk4 (by omega) (br_t ht (yl_r hk4 (br_t hlo (gY _ ⟨vp_in_nI (by omega) (by omega), ?_⟩)))))⟩⟩))
                rw [nI_clamp (by omega), ← hag (k % 4) (by omega)]
                exact hp
            · refine ⟨-3, _, _, rl_m (dn := dn) (bm := bm) (wo := wo) (vt := vt) (yz := yz) H, fun post hp => br_t hdn (hX _ (br_t p0' (fX _ (br_t rb_n1lt ⟨hin, ?_⟩)))), fun post hp => br_t hdn (hY _ (br_f (by decide) (nm_r (rb_slot' v l) (fY _ ⟨hin, ?_⟩))))⟩
              · rw [nI_clamp (by omega), e]
                exact nm_e (br_t k0 ⟨rb_4, nm_r (rb_d4 (by omega)) ⟨rb_4, nm_r (rb_r4 (by omega)) ⟨rb_6, nm_r (rb_dk (by omega) (by omega)) (xt_r (Nat.mod_lt _ (by decide)) hk4 (br_t ht (xl_r hk4 (br_f hlo hp))))⟩⟩⟩)
              · rw [nI_clamp (by omega), e]
                exact nm_e (br_t rb_n1lt (br_t k0 ⟨rb_4, nm_r (rb_d4 (by omega)) ⟨rb_4, nm_r (rb_r4 (by omega)) (yh_r hk4 (by omega) (br_t ht (yl_r hk4 (br_f hlo hp))))⟩⟩))
          · refine ⟨ba ((k / 4 + k % 4) % 6 * 16 + k / 4), _, _, rl_m (dn := dn) (bm := bm) (wo := wo) (vt := vt) (yz := yz) H, fun post hp => br_t hdn (hX _ (br_t p0' (fX _ (br_t rb_n1lt ⟨hin, ?_⟩)))), fun post hp => br_t hdn (hY _ (br_f (by decide) (nm_r (rb_slot' v l) (fY _ ⟨hin, ?_⟩))))⟩
            · rw [nI_clamp (by omega), e]
              refine nm_e (br_t k0 ⟨rb_4, nm_r (rb_d4 (by omega)) ⟨rb_4, nm_r (rb_r4 (by omega)) ⟨rb_6, nm_r (rb_dk (by omega) (by omega)) (xt_r (Nat.mod_lt _ (by decide)) hk4 (br_f ht ⟨pk_in _ 96 hcell (rb_cell _ _), ?_⟩))⟩⟩⟩)
              rw [rb_cell, nI_clamp (by omega)]
              exact hp
            · rw [nI_clamp (by omega), e]
              refine nm_e (br_t rb_n1lt (br_t k0 ⟨rb_4, nm_r (rb_d4 (by omega)) ⟨rb_4, nm_r (rb_r4 (by omega)) (yh_r hk4 (by omega) (br_f ht (yc_r hk4 (by omega) ⟨vp_in_nI hcell (by omega), ?_⟩)))⟩⟩))
              rw [nI_clamp (by omega)]
              exact hp
      · have ha0 : ¬ nI a < 0 := nI_pos (by omega)
        have hia : vp_in (nI a) 6 := vp_in_nI (by omega) (by omega)
        refine ⟨wv a, _, _, rl_m (dn := dn) (bm := bm) (wo := wo) (vt := vt) (yz := yz) H, fun post hp => br_t hdn (hX _ (br_t p0' (fX _ (br_f ha0 ⟨hia, ?_⟩)))), fun post hp => br_t hdn (hY _ (br_f (by decide) (nm_r (rb_slot' v l) (fY _ ⟨hin, nm_e (br_f ha0 ⟨hia, ?_⟩)⟩))))⟩
        · rw [nI_clamp (by omega)]; exact hp
        · rw [nI_clamp (by omega), (hwt.1 a ha).2.1]; exact hp
  · exact ⟨-4, _, _, rl_m H, fun post hp => br_f hdn hp, fun post hp => br_f hdn hp⟩
/-! trim -/
theorem bk_n : bk_k (-1) := Or.inl rfl
theorem rl_bo {w d s b c l : Nat} {x : Int32} (hl : l < 120) (hx : bk_k x) (H : rl_i w d s b c ca ba ds mk bo us ws wv ys yv nt) : rl_i w d s b c ca ba ds mk (upd bo l x) (pu_i (pu_d us (bo l)) x) ws wv ys yv nt := by
  obtain ⟨hwd, hd, hs, hb, hc, hca, hby, hdk, hbo, hus, hwt, hnt⟩ := H
  exact ⟨hwd, hd, hs, hb, hc, hca, hby, hdk, bo_p hx hbo, us_p hl hx hbo hus, hwt, hnt⟩
theorem si_trim {u : SX} {v : SY} (R : rl_s u v) (p0 p1 : Int32) : si_m (fun post => wpX_trim post u p0 p1) (fun post => wpY_trim post v p0 p1) := by
  obtain ⟨w, d, s, b, c, ca, dn, bm, ba, ds, mk, wo, vt, bo, us, ws, wv, nt, ys, yv, yz, rfl, rfl, H⟩ := R
  by_cases hdn : dn = 0
  · rcases sl_r (vt := vt) p0 p1 with ⟨hX, hY⟩ | ⟨v, l, hv, hl, rfl, rfl, hX, hY⟩
    · exact ⟨-1, _, _, rl_m H, fun post hp => br_t hdn (hX _ (br_f rb_n1le hp)), fun post hp => br_t hdn (hY _ (br_t rfl hp))⟩
    · have hs : v * 20 + l < 120 := by omega
      have hw6 : w ≤ 6 := Nat.le_trans H.1 H.2.1
      have hwd := H.1
      have hbo := H.2.2.2.2.2.2.2.2.1
      have p0' : (0 : Int32) ≤ nI (v * 20 + l) := nI_pos' (by omega)
      have hin : vp_in (nI (v * 20 + l)) 120 := vp_in_nI hs (by omega)
      obtain ⟨r, w', ws', wv', ys', yv', hk, hn, hlt, hge, fX, fY, fZ⟩ := fg_r (l := v * 20 + l) hw6 H.2.2.2.2.2.2.2.2.2.2.1
      by_cases hr : r < 0
      · obtain ⟨rfl, rfl, rfl, rfl, rfl⟩ := hlt hr
        refine ⟨0, _, _, rl_m (dn := dn) (bm := bm) (wo := wo) (vt := vt) (yz := yz) (rl_bo hs bk_n H), fun post hp => br_t hdn (hX _ (br_t p0' (xo_p hs bk_n hbo (fX _ hp)))), fun post hp => br_t hdn (hY _ (br_f (by decide) (nm_r (rb_slot' v l) (fY _ (br_t hr ⟨hin, ?_⟩)))))⟩
        rw [nI_clamp (by omega)]
        exact nm_e hp
      · have hw' := (hge hr).1
        refine ⟨0, _, _, rl_m (dn := dn) (bm := bm) (wo := wo) (vt := vt) (yz := yz) (rl_wt (rl_bo hs bk_n H) (by omega) hk), fun post hp => br_t hdn (hX _ (br_t p0' (xo_p hs bk_n hbo (fX _ hp)))), fun post hp => br_t hdn (hY _ (br_f (by decide) (nm_r (rb_slot' v l) (fY _ (br_f hr (fZ hr _ ⟨hin, ?_⟩))))))⟩
        rw [nI_clamp (by omega)]
        exact nm_e hp
  · exact ⟨-4, _, _, rl_m H, fun post hp => br_f hdn hp, fun post hp => br_f hdn hp⟩
/-! change -/
theorem rl_dk {w d s b c : Nat} {ds' mk' ba' : Nat → Int32} (H : rl_i w d s b c ca ba ds mk bo us ws wv ys yv nt) (h : dk_k ds' mk') (hb : by_k ba') : rl_i w d s b c ca ba' ds' mk' bo us ws wv ys yv nt := by
  obtain ⟨hwd, hd, hs, hb, hc, hca, hby, hdk, hbo, hus, hwt, hnt⟩ := H
  exact ⟨hwd, hd, hs, hb, hc, hca, by assumption, h, hbo, hus, hwt, hnt⟩
theorem dk_u {j m : Nat} {x : Int32} (hm : m ≤ 16) (hx : x = 2 → m < 16) (h : dk_k ds mk) : dk_k (upd ds j x) (upd mk j (nI m)) := by
  intro i hi
  by_cases c : i = j
  · rw [c, pk_us, pk_us]
    exact ⟨m, hm, rfl, hx⟩
  · rw [pk_un c, pk_un c]
    exact h i hi
theorem ch_x {post : Int32 → SX → Prop} {j : Nat} {z : Int32} (hj : j < 6) (h : post 1 (wc, dl, ns, nb, ca, dn, sn, bm, ba, upd ds j z, upd mk j (nI 0), wo, vt, bo, us, ws, wv, nt)) : wX_change_49 post (nI j) z (nI j) wc dl ns nb ca dn sn bm ba ds mk wo vt bo us ws wv nt := by
  refine ⟨vp_in_nI hj (by omega), ?_⟩
  rw [nI_clamp (by omega)]
  exact nm_e ⟨vp_in_nI hj (by omega), nm_e h⟩
theorem ch_y {post : Int32 → SY → Prop} {j : Nat} {z : Int32} (hj : j < 6) (h : post 1 (dl, ca, sn, bm, dn, wc, nb, ns, ba, upd ds j z, upd mk j (nI 0), vt, bo, ys, yv, nt, yz)) : wY_change_44 post (nI j) z (nI j) dl ca sn bm dn wc nb ns ba ds mk vt bo ys yv nt yz := by
  refine ⟨vp_in_nI hj (by omega), ?_⟩
  rw [nI_clamp (by omega)]
  exact nm_e ⟨vp_in_nI hj (by omega), nm_e h⟩
theorem si_change {u : SX} {v : SY} (R : rl_s u v) (p0 p1 : Int32) : si_m (fun post => wpX_change post u p0 p1) (fun post => wpY_change post v p0 p1) := by
  obtain ⟨w, d, s, b, c, ca, dn, bm, ba, ds, mk, wo, vt, bo, us, ws, wv, nt, ys, yv, yz, rfl, rfl, H⟩ := R
  have hby := H.2.2.2.2.2.2.1
  have hdk := H.2.2.2.2.2.2.2.1
  rcases pk_ix p0 (n := 6) (by decide) with h | h | ⟨j, hj, rfl⟩
  · exact ⟨0, _, _, rl_m H, fun post hp => br_t h hp, fun post hp => br_t h (br_t rfl hp)⟩
  · have h0 := ge_0 6 (by decide) h
    exact ⟨0, _, _, rl_m H, fun post hp => br_f h0 (br_f (Int32.not_lt.mpr h) hp), fun post hp => br_f h0 (br_t (i5_6 h) (br_t rfl hp))⟩
  · have h0 : ¬ nI j < 0 := nI_pos (by omega)
    have h6 : nI j < (6 : Int32) := nI_lt (b := 6) hj (by decide)
    have h5 : ¬ (5 : Int32) < nI j := nI_nlt (a := 5) (b := j) (by omega) (by decide)
    have hin : vp_in (nI j) 6 := vp_in_nI hj (by omega)
    have h2 := rl_dk H (dk_u (j := j) (m := 0) (x := 2) (by decide) (fun _ => by decide) hdk) hby
    have h1 := rl_dk H (dk_u (j := j) (m := 0) (x := 1) (by decide) (fun _ => by decide) hdk) hby
    by_cases hf : ds j = 1
    · by_cases hz : 1 = p1
      · refine ⟨0, _, _, rl_m (dn := dn) (bm := bm) (wo := wo) (vt := vt) (yz := yz) H, fun post hp => br_f h0 (br_t h6 ⟨hin, ?_⟩), fun post hp => br_f h0 (br_f h5 (br_f (by decide) ⟨hin, ?_⟩))⟩
        · rw [nI_clamp (by omega)]; exact br_t hf (br_t hz hp)
        · rw [nI_clamp (by omega)]; exact br_t hf (br_t hz.symm hp)
      · by_cases h20 : p1 = 0
        · refine ⟨1, _, _, rl_m (dn := dn) (bm := bm) (wo := wo) (vt := vt) (yz := yz) h2, fun post hp => br_f h0 (br_t h6 ⟨hin, ?_⟩), fun post hp => br_f h0 (br_f h5 (br_f (by decide) ⟨hin, ?_⟩))⟩
          · rw [nI_clamp (by omega)]; exact br_t hf (br_f hz (br_t h20 (ch_x hj hp)))
          · rw [nI_clamp (by omega)]; exact br_t hf (br_f (fun z => hz z.symm) (br_t h20 (ch_y hj hp)))
        · refine ⟨1, _, _, rl_m (dn := dn) (bm := bm) (wo := wo) (vt := vt) (yz := yz) h1, fun post hp => br_f h0 (br_t h6 ⟨hin, ?_⟩), fun post hp => br_f h0 (br_f h5 (br_f (by decide) ⟨hin, ?_⟩))⟩
          · rw [nI_clamp (by omega)]; exact br_t hf (br_f hz (br_f h20 (ch_x hj hp)))
          · rw [nI_clamp (by omega)]; exact br_t hf (br_f (fun z => hz z.symm) (br_f h20 (ch_y hj hp)))
    · by_cases hz : 0 = p1
      · refine ⟨0, _, _, rl_m (dn := dn) (bm := bm) (wo := wo) (vt := vt) (yz := yz) H, fun post hp => br_f h0 (br_t h6 ⟨hin, ?_⟩), fun post hp => br_f h0 (br_f h5 (br_f (by decide) ⟨hin, ?_⟩))⟩
        · rw [nI_clamp (by omega)]; exact br_f hf (br_t hz hp)
        · rw [nI_clamp (by omega)]; exact br_f hf (br_t hz.symm hp)
      · refine ⟨1, _, _, rl_m (dn := dn) (bm := bm) (wo := wo) (vt := vt) (yz := yz) h1, fun post hp => br_f h0 (br_t h6 ⟨hin, ?_⟩), fun post hp => br_f h0 (br_f h5 (br_f (by decide) ⟨hin, ?_⟩))⟩
        · rw [nI_clamp (by omega)]; exact br_f hf (br_f hz (br_f (fun z => hz z.symm) (ch_x hj hp)))
        · rw [nI_clamp (by omega)]; exact br_f hf (br_f (fun z => hz z.symm) (br_f (fun z => hz z.symm) (ch_y hj hp)))
/-! spoil, raw, place, crash -/
def bd_k (p0 p1 : Int32) : Prop := p0 < 0 ∨ nI 6 ≤ p0 ∨ p1 < 0 ∨ nI 16 ≤ p1
theorem xt_0 {post : Int32 → Prop} {p0 p1 : Int32} (h : bd_k p0 p1) (hp : post 0) : wpX_isThere post (wc, dl, ns, nb, ca, dn, sn, bm, ba, ds, mk, wo, vt, bo, us, ws, wv, nt) p0 p1 := by
  refine br_c (fun _ => hp) (fun a => br_c (fun _ => hp) (fun b => br_c (fun _ => hp) (fun c => br_c (fun d => ?_) (fun _ => hp))))
  rcases h with h | h | h | h
  · exact absurd h a
  · exact absurd h b
  · exact absurd h c
  · exact absurd d (Int32.not_lt.mpr h)
theorem yi_2 {A B : Prop} {p0 p1 : Int32} (h : bd_k p0 p1) (hp : A) : wpY_in (fun r_1 => ((r_1 = 0 → A) ∧ (¬ r_1 = 0 → wpY_in (fun r_3 => ((r_3 = 0 → A) ∧ (¬ r_3 = 0 → B))) p1 0 15))) p0 0 5 := by
  refine br_c (fun _ => br_t rfl hp) (fun a => br_c (fun _ => br_t rfl hp) (fun b => br_f (by decide) (br_c (fun _ => br_t rfl hp) (fun c => br_c (fun _ => br_t rfl hp) (fun d => ?_)))))
  rcases h with h | h | h | h
  · exact absurd h a
  · exact absurd (i5_6 h) b
  · exact absurd h c
  · exact absurd (Int32.lt_of_lt_of_le (by decide) h) d
theorem yi_3 {A B : Prop} {d s : Nat} (hd : d < 6) (hs : s < 16) (hp : B) : wpY_in (fun r_1 => ((r_1 = 0 → A) ∧ (¬ r_1 = 0 → wpY_in (fun r_3 => ((r_3 = 0 → A) ∧ (¬ r_3 = 0 → B))) (nI s) 0 15))) (nI d) 0 5 :=
  br_f (nI_pos (by omega)) (br_f (nI_nlt (a := 5) (b := d) (by omega) (by decide)) (br_f (by decide) (br_f (nI_pos (by omega)) (br_f (nI_nlt (a := 15) (b := s) (by omega) (by decide)) (br_f (by decide) hp)))))
theorem bd_r (p0 p1 : Int32) : bd_k p0 p1 ∨ ∃ d s : Nat, d < 6 ∧ s < 16 ∧ p0 = nI d ∧ p1 = nI s := by
  rcases pk_ix p0 (n := 6) (by decide) with h | h | ⟨d, hd, rfl⟩
  · exact Or.inl (Or.inl h)
  · exact Or.inl (Or.inr (Or.inl h))
  · rcases pk_ix p1 (n := 16) (by decide) with h | h | ⟨s, hs, rfl⟩
    · exact Or.inl (Or.inr (Or.inr (Or.inl h)))
    · exact Or.inl (Or.inr (Or.inr (Or.inr h)))
    · exact Or.inr ⟨d, s, hd, hs, rfl, rfl⟩
theorem by_up {j : Nat} {x : Int32} (h : by_k ba) (hx : is_b x) : by_k (upd ba j x) := by
  intro i hi
  by_cases c : i = j
  · rw [c, pk_us]; exact hx
  · rw [pk_un c]; exact h i hi
theorem si_spoil {u : SX} {v : SY} (R : rl_s u v) (p0 p1 p2 : Int32) : si_m (fun post => wpX_spoil post u p0 p1 p2) (fun post => wpY_spoil post v p0 p1 p2) := by
  obtain ⟨w, d, s, b, c, ca, dn, bm, ba, ds, mk, wo, vt, bo, us, ws, wv, nt, ys, yv, yz, rfl, rfl, H⟩ := R
  have hby := H.2.2.2.2.2.2.1
  have hdk := H.2.2.2.2.2.2.2.1
  unfold si_m
  unfold wpX_spoil wpY_spoil
  dsimp only
  rcases bd_r p0 p1 with h | ⟨e, t, he, ht, rfl, rfl⟩
  · exact ⟨0, _, _, rl_m H, fun post hp => xt_0 h (br_t rfl hp), fun post hp => yi_2 h hp⟩
  · have hc : e * 16 + t < 96 := by omega
    by_cases z : th_v ds mk e t = 0
    · exact ⟨0, _, _, rl_m H, fun post hp => xt_r he ht (br_t z hp), fun post hp => yi_3 he ht (yt_r he (br_t z hp))⟩
    · refine ⟨1, _, _, rl_m (dn := dn) (bm := bm) (wo := wo) (vt := vt) (yz := yz) (rl_dk H hdk (by_up (j := e * 16 + t) hby (is_bx (hby _ hc) (is_ba p2)))), fun post hp => xt_r he ht (br_f z ⟨pk_in _ 96 hc (rb_cell e t), pk_in _ 96 hc (rb_cell e t), ?_⟩), fun post hp => yi_3 he ht (yt_r he (br_f z ⟨pk_in _ 96 hc (rb_cell' e t), pk_in _ 96 hc (rb_cell' e t), ?_⟩))⟩
      · rw [rb_cell, nI_clamp (by omega)]; exact nm_e hp
      · rw [rb_cell', nI_clamp (by omega)]; exact nm_e hp
/-- the calls that change nothing -/
def si_o (WX : (Int32 → Prop) → Prop) (WY : (Int32 → Prop) → Prop) : Prop := ∃ r : Int32, (∀ post : Int32 → Prop, post r → WX post) ∧ (∀ post : Int32 → Prop, post r → WY post)
theorem so_raw {u : SX} {v : SY} (R : rl_s u v) (p0 p1 : Int32) : si_o (fun post => wpX_raw post u p0 p1) (fun post => wpY_raw post v p0 p1) := by
  obtain ⟨w, d, s, b, c, ca, dn, bm, ba, ds, mk, wo, vt, bo, us, ws, wv, nt, ys, yv, yz, rfl, rfl, H⟩ := R
  unfold si_o
  unfold wpX_raw wpY_raw
  dsimp only
  rcases bd_r p0 p1 with h | ⟨e, t, he, ht, rfl, rfl⟩
  · exact ⟨-1, fun post hp => xt_0 h (br_t rfl hp), fun post hp => yi_2 h hp⟩
  · have hc : e * 16 + t < 96 := by omega
    by_cases z : th_v ds mk e t = 0
    · exact ⟨-1, fun post hp => xt_r he ht (br_t z hp), fun post hp => yi_3 he ht (yt_r he (br_t z hp))⟩
    · refine ⟨ba (e * 16 + t), fun post hp => xt_r he ht (br_f z ⟨pk_in _ 96 hc (rb_cell e t), ?_⟩), fun post hp => yi_3 he ht (yt_r he (br_f z ⟨pk_in _ 96 hc (rb_cell' e t), ?_⟩))⟩
      · rw [rb_cell, nI_clamp (by omega)]; exact hp
      · rw [rb_cell', nI_clamp (by omega)]; exact hp
theorem so_place {u : SX} {v : SY} (R : rl_s u v) (p0 p1 : Int32) : si_o (fun post => wpX_place post u p0 p1) (fun post => wpY_place post v p0 p1) := by
  obtain ⟨w, d, s, b, c, ca, dn, bm, ba, ds, mk, wo, vt, bo, us, ws, wv, nt, ys, yv, yz, rfl, rfl, H⟩ := R
  unfold si_o
  unfold wpX_place wpY_place
  dsimp only
  rcases sl_r (vt := vt) p0 p1 with ⟨hX, hY⟩ | ⟨v, l, hv, hl, rfl, rfl, hX, hY⟩
  · exact ⟨-1, fun post hp => hX _ (br_f rb_n1le hp), fun post hp => hY _ (br_t rfl hp)⟩
  · have hs : v * 20 + l < 120 := by omega
    refine ⟨bo (v * 20 + l), fun post hp => hX _ (br_t (nI_pos' (by omega)) ⟨vp_in_nI hs (by omega), ?_⟩), fun post hp => hY _ (br_f (by decide) ⟨pk_in _ 120 hs (rb_slot' v l), ?_⟩)⟩
    · rw [nI_clamp (by omega)]; exact hp
    · rw [rb_slot', nI_clamp (by omega)]; exact hp
theorem rl_ca {w d s b c : Nat} {x : Int32} (hx : ca_k x) (H : rl_i w d s b c ca ba ds mk bo us ws wv ys yv nt) : rl_i w d s b c x ba ds mk bo us ws wv ys yv nt := by
  obtain ⟨hwd, hd, hs, hb, hc, hca, hby, hdk, hbo, hus, hwt, hnt⟩ := H
  exact ⟨hwd, hd, hs, hb, hc, hx, hby, hdk, hbo, hus, hwt, hnt⟩
theorem rb_m1 {x : Int32} (h : ¬ x < -1) (h0 : x < 0) : x = -1 := by
  rw [Int32.lt_iff_toInt_lt, show (-1 : Int32).toInt = -1 from by decide] at h
  rw [Int32.lt_iff_toInt_lt, show (0 : Int32).toInt = 0 from by decide] at h0
  apply Int32.toInt_inj.mp
  rw [show (-1 : Int32).toInt = -1 from by decide]
  omega
theorem si_crash {u : SX} {v : SY} (R : rl_s u v) (p0 : Int32) : si_m (fun post => wpX_crash post u p0) (fun post => wpY_crash post v p0) := by
  obtain ⟨w, d, s, b, c, ca, dn, bm, ba, ds, mk, wo, vt, bo, us, ws, wv, nt, ys, yv, yz, rfl, rfl, H⟩ := R
  by_cases h1 : p0 < -1
  · exact ⟨0, _, _, rl_m H, fun post hp => br_t h1 hp, fun post hp => br_t h1 (br_t rfl hp)⟩
  · rcases pk_ix p0 (n := 3) (by decide) with h | h | ⟨j, hj, rfl⟩
    · have e := rb_m1 h1 h
      subst e
      exact ⟨1, _, _, rl_m (rl_ca (Or.inl rfl) H), fun post hp => br_f h1 (br_t (by decide) hp), fun post hp => br_f h1 (br_f (by decide) (br_f (by decide) hp))⟩
    · exact ⟨0, _, _, rl_m H, fun post hp => br_f h1 (br_f (Int32.not_lt.mpr h) hp), fun post hp => br_f h1 (br_t (Int32.lt_of_lt_of_le (by decide) h) (br_t rfl hp))⟩
    · exact ⟨1, _, _, rl_m (rl_ca (Or.inr ⟨j, hj, rfl⟩) H), fun post hp => br_f h1 (br_t (nI_lt (b := 3) hj (by decide)) hp), fun post hp => br_f h1 (br_f (nI_nlt (a := 2) (b := j) (by omega) (by decide)) (br_f (by decide) hp))⟩
/-! recover -/
theorem si_recover {u : SX} {v : SY} (R : rl_s u v) : si_m (fun post => wpX_recover post u) (fun post => wpY_recover post v) := by
  obtain ⟨w, d, s, b, c, ca, dn, bm, ba, ds, mk, wo, vt, bo, us, ws, wv, nt, ys, yv, yz, rfl, rfl, H⟩ := R
  by_cases hdn : dn = 0
  · exact ⟨0, _, _, rl_m H, fun post hp => br_t hdn hp, fun post hp => br_t hdn hp⟩
  · have hs := H.2.2.1
    have hb := H.2.2.2.1
    have hby := H.2.2.2.2.2.2.1
    have hdk := H.2.2.2.2.2.2.2.1
    have hbo := H.2.2.2.2.2.2.2.2.1
    have hnt := H.2.2.2.2.2.2.2.2.2.2.2
    have hbN : bk_k (nI b) := Or.inr ⟨b, hb, rfl⟩
    refine ⟨1, _, _, rl_m (dn := 0) (bm := bm) (wo := wo) (vt := vt) (yz := yz) (rl_bo hs hbN (rl_dk H hdk (pt_b (ds := ds) (mk := mk) hb hby hnt 3 (by decide)))), fun post hp => br_f hdn (xn_r (m := 3) hb (by decide) (xo_p hs hbN hbo hp)), fun post hp => br_f hdn ⟨4, yn_v (i := 0) hb (by decide) (yn_v (i := 1) hb (by decide) (yn_v (i := 2) hb (by decide) (br_t (by decide) ⟨vp_in_nI hs (by omega), ?_⟩)))⟩⟩
    rw [nI_clamp (by omega)]
    exact nm_e hp
end
