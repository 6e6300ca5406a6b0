section
variable {wc dl ns nb ca dn sn bm : Int32} {ba ds mk wo vt bo us ws wv nt ys yv yz : Nat → Int32}
/-! those that wait -/
theorem wa_l {w l : Nat} (hw : w ≤ 6) (hk : wt_k w ws wv ys yv) : ∀ e i : Nat, i + e = w → (∀ j : Nat, j < i → ws j ≠ nI l) → ∃ r : Int32, ((r = -1 ∧ ∀ j : Nat, j < w → ws j ≠ nI l) ∨ ∃ a : Nat, a < w ∧ r = nI a ∧ ws a = nI l) ∧ (∀ {dl ns nb ca dn sn bm : Int32} {ba ds mk wo vt bo us nt : Nat → Int32} (post : Int32 → Prop), post r → wX_waitingAt_2 post (nI l) (nI w) dl ns nb ca dn sn bm ba ds mk wo vt bo us ws wv nt (e + 1) (nI i)) ∧ (∀ {dl ca sn bm dn nb ns : Int32} {ba ds mk vt bo nt yz : Nat → Int32} (post : Int32 → Prop), post r → wY_findWaiting_2 post (nI l) dl ca sn bm dn (nI w) nb ns ba ds mk vt bo ys yv nt yz (e + 1) (nI i)) := by
  intro e
  induction e with
  | zero =>
    intro i hi hn
    have hi : i = w := by omega
    subst hi
    refine ⟨-1, Or.inl ⟨rfl, hn⟩, ?_, ?_⟩
    · intros; exact br_t (nI_le (Nat.le_refl i) (by omega)) (by assumption)
    · intros; exact br_t (nI_le (Nat.le_refl i) (by omega)) (by assumption)
  | succ e ih =>
    intro i hi hn
    have hk1 := hk.1 i (by omega)
    have hge : ¬ nI w ≤ nI i := nI_ge (by omega) (by omega)
    have hin : vp_in (nI i) 6 := vp_in_nI (by omega) (by omega)
    by_cases z : ws i = nI l
    · refine ⟨nI i, Or.inr ⟨i, by omega, rfl, z⟩, ?_, ?_⟩
      · intros
        refine br_f hge ⟨hin, ?_⟩
        rw [nI_clamp (by omega)]; exact br_t z (by assumption)
      · intros
        refine br_f hge ⟨hin, ?_⟩
        rw [nI_clamp (by omega), hk1.1]; exact br_t z (by assumption)
    · obtain ⟨r, hr, hX, hY⟩ := ih (i + 1) (by omega) (fun j hj => by
        by_cases c : j = i
        · rw [c]; exact z
        · exact hn j (by omega))
      refine ⟨r, hr, ?_, ?_⟩
      · intros
        refine br_f hge ⟨hin, ?_⟩
        rw [nI_clamp (by omega)]
        refine br_f z (nm_r (nI_1 i) ?_)
        apply hX
        assumption
      · intros
        refine br_f hge ⟨hin, ?_⟩
        rw [nI_clamp (by omega), hk1.1]
        refine br_f z (nm_r (nI_1 i) ?_)
        apply hY
        assumption
theorem wa_r {w l : Nat} (hw : w ≤ 6) (hk : wt_k w ws wv ys yv) : ∃ r : Int32, ((r = -1 ∧ ∀ j : Nat, j < w → ws j ≠ nI l) ∨ ∃ a : Nat, a < w ∧ r = nI a ∧ ws a = nI l) ∧ (∀ {dl ns nb ca dn sn bm : Int32} {ba ds mk wo vt bo us nt : Nat → Int32} (post : Int32 → Prop), post r → wpX_waitingAt post (nI w, dl, ns, nb, ca, dn, sn, bm, ba, ds, mk, wo, vt, bo, us, ws, wv, nt) (nI l)) ∧ (∀ {dl ca sn bm dn nb ns : Int32} {ba ds mk vt bo nt yz : Nat → Int32} (post : Int32 → Prop), post r → wpY_findWaiting post (dl, ca, sn, bm, dn, nI w, nb, ns, ba, ds, mk, vt, bo, ys, yv, nt, yz) (nI l)) := by
  obtain ⟨r, hr, hX, hY⟩ := wa_l (l := l) hw hk w 0 (by omega) (fun j hj => absurd hj (by omega))
  refine ⟨r, hr, ?_, ?_⟩
  · intro dl ns nb ca dn sn bm ba ds mk wo vt bo us nt post h
    exact ⟨w + 1, hX post h⟩
  · intro dl ca sn bm dn nb ns ba ds mk vt bo nt yz post h
    exact ⟨w + 1, hY post h⟩
def sh_f (a : Nat → Int32) (i e : Nat) : Nat → Int32 := fun j => if i ≤ j ∧ j < e then a (j + 1) else a j
theorem sh_e {a : Nat → Int32} {i : Nat} : sh_f a i i = a := by
  funext j
  unfold sh_f
  rw [if_neg (by omega)]
theorem sh_s {a : Nat → Int32} {i e : Nat} (h : i < e) : sh_f (upd a i (a (i + 1))) (i + 1) e = sh_f a i e := by
  funext j
  unfold sh_f upd
  by_cases c : j = i
  · subst c
    rw [if_neg (by omega), if_pos rfl, if_pos ⟨Nat.le_refl j, h⟩]
  · by_cases d : i ≤ j ∧ j < e
    · rw [if_pos (by omega), if_neg (by omega), if_pos d]
    · rw [if_neg (by omega), if_neg c, if_neg d]
theorem xr_l {post : SX → Prop} {w : Nat} (hw : w < 6) : ∀ (e i : Nat) (ws wv : Nat → Int32), i + e = w → post (nI w, dl, ns, nb, ca, dn, sn, bm, ba, ds, mk, wo, vt, bo, us, sh_f ws i w, sh_f wv i w, nt) → wX_removeWaiting_12 post (nI w) dl ns nb ca dn sn bm (e + 1) (nI i) ba ds mk wo vt bo us ws wv nt := by
  intro e
  induction e with
  | zero =>
    intro i ws wv hi h
    have hi : i = w := by omega
    subst hi
    rw [sh_e, sh_e] at h
    exact br_t (nI_le (Nat.le_refl i) (by omega)) h
  | succ e ih =>
    intro i ws wv hi h
    have h1 : vp_in (nI i + 1) 6 := by rw [nI_1]; exact vp_in_nI (by omega) (by omega)
    have h0 : vp_in (nI i) 6 := vp_in_nI (by omega) (by omega)
    refine br_f (nI_ge (by omega) (by omega)) ⟨h1, h0, nm_e ⟨h1, h0, nm_e (nm_r (nI_1 i) ?_)⟩⟩
    rw [nI_1 i, nI_clamp (by omega), nI_clamp (by omega)]
    refine ih (i + 1) _ _ (by omega) ?_
    rw [sh_s (by omega), sh_s (by omega)]
    exact h
theorem xr_r {post : SX → Prop} {w a : Nat} (hw : w < 6) (ha : a ≤ w) (h : post (nI w, dl, ns, nb, ca, dn, sn, bm, ba, ds, mk, wo, vt, bo, us, sh_f ws a w, sh_f wv a w, nt)) : wpX_removeWaiting post (nI (w + 1), dl, ns, nb, ca, dn, sn, bm, ba, ds, mk, wo, vt, bo, us, ws, wv, nt) (nI a) :=
  nm_r (nI_pred w) ⟨w - a + 1, xr_l hw (w - a) a ws wv (by omega) h⟩
theorem yr_l {post : SY → Prop} {w : Nat} (hw : w < 6) : ∀ (e i : Nat) (ys yv : Nat → Int32), i + e = w → post (dl, ca, sn, bm, dn, nI w, nb, ns, ba, ds, mk, vt, bo, sh_f ys i w, sh_f yv i w, nt, yz) → wY_forget_12 post dl ca sn bm dn (nI w) nb ns (e + 1) (nI i) ba ds mk vt bo ys yv nt yz := by
  intro e
  induction e with
  | zero =>
    intro i ys yv hi h
    have hi : i = w := by omega
    subst hi
    rw [sh_e, sh_e] at h
    exact br_t (nI_le (Nat.le_refl i) (by omega)) h
  | succ e ih =>
    intro i ys yv hi h
    have h1 : vp_in (nI i + 1) 6 := by rw [nI_1]; exact vp_in_nI (by omega) (by omega)
    have h0 : vp_in (nI i) 6 := vp_in_nI (by omega) (by omega)
    refine br_f (nI_ge (by omega) (by omega)) ⟨h1, h0, nm_e ⟨h1, h0, nm_e (nm_r (nI_1 i) ?_)⟩⟩
    rw [nI_1 i, nI_clamp (by omega), nI_clamp (by omega)]
    refine ih (i + 1) _ _ (by omega) ?_
    rw [sh_s (by omega), sh_s (by omega)]
    exact h
theorem yr_r {post : SY → Prop} {w a : Nat} (hw : w < 6) (ha : a ≤ w) (h : post (dl, ca, sn, bm, dn, nI w, nb, ns, ba, ds, mk, vt, bo, sh_f ys a w, sh_f yv a w, nt, yz)) : wpY_forget post (dl, ca, sn, bm, dn, nI (w + 1), nb, ns, ba, ds, mk, vt, bo, ys, yv, nt, yz) (nI a) :=
  nm_r (nI_pred w) ⟨w - a + 1, yr_l hw (w - a) a ys yv (by omega) h⟩
theorem sh_lo {a : Nat → Int32} {i e j : Nat} (h : j < i) : sh_f a i e j = a j := if_neg (by omega)
theorem sh_hi {a : Nat → Int32} {i e j : Nat} (h : i ≤ j) (k : j < e) : sh_f a i e j = a (j + 1) := if_pos ⟨h, k⟩
theorem sh_at {a : Nat → Int32} {i e j : Nat} (k : j < e) : ∃ m : Nat, (m = j ∧ j < i ∨ m = j + 1 ∧ i ≤ j) ∧ ∀ a : Nat → Int32, sh_f a i e j = a m := by
  by_cases c : j < i
  · exact ⟨j, Or.inl ⟨rfl, c⟩, fun a => sh_lo c⟩
  · exact ⟨j + 1, Or.inr ⟨rfl, by omega⟩, fun a => sh_hi (by omega) k⟩
theorem wt_rm {w a : Nat} (ha : a ≤ w) (h : wt_k (w + 1) ws wv ys yv) : wt_k w (sh_f ws a w) (sh_f wv a w) (sh_f ys a w) (sh_f yv a w) := by
  refine ⟨fun i hi => ?_, fun i j hij hj => ?_⟩
  · obtain ⟨m, hm, e⟩ := sh_at (a := ws) (i := a) hi
    rw [e, e, e, e]
    exact h.1 m (by omega)
  · obtain ⟨m, hm, e⟩ := sh_at (a := ws) (i := a) (j := i) (e := w) (by omega)
    obtain ⟨n, hn, f⟩ := sh_at (a := ws) (i := a) hj
    rw [e, f]
    exact h.2 m n (by omega) (by omega)
theorem wt_no {w a : Nat} {x : Int32} (ha : a ≤ w) (h : wt_k (w + 1) ws wv ys yv) (hx : ws a = x) : ∀ j : Nat, j < w → sh_f ws a w j ≠ x := by
  intro j hj
  obtain ⟨m, hm, e⟩ := sh_at (a := ws) (i := a) hj
  rw [e, ← hx]
  by_cases c : m < a
  · exact h.2 m a c (by omega)
  · exact fun z => h.2 a m (by omega) (by omega) z.symm
theorem wt_ad {w l : Nat} {x : Int32} (hl : l < 120) (hx : is_b x) (h : wt_k w ws wv ys yv) (hn : ∀ j : Nat, j < w → ws j ≠ nI l) : wt_k (w + 1) (upd ws w (nI l)) (upd wv w x) (upd ys w (nI l)) (upd yv w x) := by
  refine ⟨fun i hi => ?_, fun i j hij hj => ?_⟩
  · by_cases c : i = w
    · rw [c, pk_us, pk_us, pk_us, pk_us]
      exact ⟨rfl, rfl, ⟨l, hl, rfl⟩, hx⟩
    · rw [pk_un c, pk_un c, pk_un c, pk_un c]
      exact h.1 i (by omega)
  · by_cases c : j = w
    · rw [c, pk_us, pk_un (by omega)]
      exact hn i (by omega)
    · rw [pk_un c, pk_un (by omega)]
      exact h.2 i j hij (by omega)
/-! an lblock that waits is forgotten -/
theorem fg_r {w l : Nat} (hw6 : w ≤ 6) (hwt : wt_k w ws wv ys yv) : ∃ (r : Int32) (w' : Nat) (ws' wv' ys' yv' : Nat → Int32), wt_k w' ws' wv' ys' yv' ∧ (∀ j : Nat, j < w' → ws' j ≠ nI l) ∧ (r < 0 → w' = w ∧ ws' = ws ∧ wv' = wv ∧ ys' = ys ∧ yv' = yv) ∧ (¬ r < 0 → w' + 1 = w ∧ ∃ a : Nat, a ≤ w' ∧ ws a = nI l ∧ ws' = sh_f ws a w' ∧ wv' = sh_f wv a w') ∧ (∀ {dl ns nb ca dn sn bm : Int32} {ba ds mk wo vt bo us nt : Nat → Int32} (post : SX → Prop), post (nI w', dl, ns, nb, ca, dn, sn, bm, ba, ds, mk, wo, vt, bo, us, ws', wv', nt) → wpX_forgetWaiting post (nI w, dl, ns, nb, ca, dn, sn, bm, ba, ds, mk, wo, vt, bo, us, ws, wv, nt) (nI l)) ∧ (∀ {dl ca sn bm dn nb ns : Int32} {ba ds mk vt bo nt yz : Nat → Int32} (post : Int32 → Prop), post r → wpY_findWaiting post (dl, ca, sn, bm, dn, nI w, nb, ns, ba, ds, mk, vt, bo, ys, yv, nt, yz) (nI l)) ∧ (¬ r < 0 → ∀ {dl ca sn bm dn nb ns : Int32} {ba ds mk vt bo nt yz : Nat → Int32} (post : SY → Prop), post (dl, ca, sn, bm, dn, nI w', nb, ns, ba, ds, mk, vt, bo, ys', yv', nt, yz) → wpY_forget post (dl, ca, sn, bm, dn, nI w, nb, ns, ba, ds, mk, vt, bo, ys, yv, nt, yz) r) := by
  obtain ⟨r, hr, hX, hY⟩ := wa_r (w := w) (l := l) hw6 hwt
  rcases hr with ⟨rfl, hn⟩ | ⟨a, ha, rfl, hl⟩
  · refine ⟨-1, w, ws, wv, ys, yv, hwt, hn, fun _ => ⟨rfl, rfl, rfl, rfl, rfl⟩, fun z => absurd rb_n1lt z, ?_, hY, fun z => absurd rb_n1lt z⟩
    intro dl ns nb ca dn sn bm ba ds mk wo vt bo us nt post hp
    exact hX _ (br_t rb_n1lt hp)
  · obtain ⟨m, rfl⟩ : ∃ m, w = m + 1 := ⟨w - 1, by omega⟩
    refine ⟨nI a, m, sh_f ws a m, sh_f wv a m, sh_f ys a m, sh_f yv a m, wt_rm (by omega) hwt, wt_no (by omega) hwt hl, fun z => absurd z (nI_pos (by omega)), fun _ => ⟨rfl, a, by omega, hl, rfl, rfl⟩, ?_, hY, ?_⟩
    · intro dl ns nb ca dn sn bm ba ds mk wo vt bo us nt post hp
      exact hX _ (br_f (nI_pos (by omega)) (xr_r (by omega) (by omega) hp))
    · intro _ dl ca sn bm dn nb ns ba ds mk vt bo nt yz post hp
      exact yr_r (by omega) (by omega) hp
/-! one that waits is written -/
theorem ww_r {w d s b c a : Nat} (ha : a < w) (H : rl_i w d s b c ca ba ds mk bo us ws wv ys yv nt) : ∃ (r : Int32) (w' s' b' : Nat) (ca' dn' : Int32) (ba' wo' bo' us' ws' wv' nt' ys' yv' yz' : Nat → Int32), rl_i w' d s' b' c ca' ba' ds mk bo' us' ws' wv' ys' yv' nt' ∧ (r = 0 → w' + 1 = w) ∧ (r = 0 → ws' = sh_f ws a w') ∧ (∀ post : Int32 → SX → Prop, post r (nI w', nI d, nI s', nI b', ca', dn', nI c, bm, ba', ds, mk, wo', vt, bo', us', ws', wv', nt') → wpX_writeWaiting post (nI w, nI d, nI s, nI b, ca, dn, nI c, bm, ba, ds, mk, wo, vt, bo, us, ws, wv, nt) (nI a)) ∧ (∀ post : Int32 → SY → Prop, post r (nI d, ca', nI c, bm, dn', nI w', nI b', nI s', ba', ds, mk, vt, bo', ys', yv', nt', yz') → wpY_turn post (nI d, ca, nI c, bm, dn, nI w, nI b, nI s, ba, ds, mk, vt, bo, ys, yv, nt, yz) (nI a)) := by
  have hw6 : w ≤ 6 := by have := H.1; have := H.2.1; omega
  have hka := H.2.2.2.2.2.2.2.2.2.2.1.1 a ha
  obtain ⟨hy, hyv, ⟨l, hl, hla⟩, hvb⟩ := hka
  obtain ⟨r, w', s', b', ca', dn', ba', wo', bo', us', nt', yz', R, hr, hX, hY⟩ := wn_r (v := wv a) (dn := dn) (bm := bm) (wo := wo) (vt := vt) (yz := yz) hl hvb H
  have hin : vp_in (nI a) 6 := vp_in_nI (by omega) (by omega)
  by_cases z : r = 0
  · have hw := hr z
    subst hw
    obtain ⟨m, rfl⟩ : ∃ m, w' = m + 1 := ⟨w' - 1, by omega⟩
    obtain ⟨hwd, hd, hs, hb, hc, hca, hby, hdk, hbo, hus, hwt, hnt⟩ := R
    refine ⟨r, m, s', b', ca', dn', ba', wo', bo', us', sh_f ws a m, sh_f wv a m, nt', sh_f ys a m, sh_f yv a m, yz', ⟨by omega, hd, hs, hb, hc, hca, hby, hdk, hbo, hus, wt_rm (by omega) hwt, hnt⟩, fun _ => rfl, fun _ => rfl, fun post hp => ⟨hin, hin, ?_⟩, fun post hp => ⟨hin, hin, ?_⟩⟩
    · rw [nI_clamp (by omega), hla]
      exact hX _ (br_t z (xr_r (by omega) (by omega) hp))
    · rw [nI_clamp (by omega), hy, hyv, hla]
      exact hY _ (br_t z (yr_r (by omega) (by omega) hp))
  · refine ⟨r, w', s', b', ca', dn', ba', wo', bo', us', ws, wv, nt', ys, yv, yz', R, fun h => absurd h z, fun h => absurd h z, fun post hp => ⟨hin, hin, ?_⟩, fun post hp => ⟨hin, hin, ?_⟩⟩
    · rw [nI_clamp (by omega), hla]
      exact hX _ (br_f z hp)
    · rw [nI_clamp (by omega), hy, hyv, hla]
      exact hY _ (br_f z hp)
end
