section
variable {wc dl ns nb ca dn sn bm : Int32} {ba ds mk wo vt bo us ws wv nt ys yv yz : Nat → Int32}
/-! rebuild -/
theorem ln_l : ∀ e i : Nat, i + e = 6 → ∃ k : Nat, k ≤ 6 ∧ (k < 6 → ds k = 2) ∧ (∀ {wc dl ns nb ca dn sn bm : Int32} {ba mk wo vt bo us ws wv nt : Nat → Int32} (post : Int32 → Prop), post (if k = 6 then -1 else nI k) → wX_leastNewDisk_2 post wc dl ns nb ca dn sn bm ba ds mk wo vt bo us ws wv nt (e + 1) (nI i)) ∧ (∀ {dl ca sn bm dn wc nb ns : Int32} {ba mk vt bo ys yv nt yz : Nat → Int32} (post : Int32 → Prop), post (nI k) → wY_leastNew_2 post dl ca sn bm dn wc nb ns ba ds mk vt bo ys yv nt yz (e + 1) (nI i)) := by
  intro e
  induction e with
  | zero =>
    intro i hi
    have hi : i = 6 := by omega
    subst hi
    refine ⟨6, by decide, fun h => absurd h (by decide), ?_, ?_⟩
    · intros; exact br_t (by decide) (by assumption)
    · intros; exact br_t (by decide) (by assumption)
  | succ e ih =>
    intro i hi
    have h6 : ¬ (6 : Int32) ≤ nI i := nI_ge (b := 6) (by omega) (by decide)
    have hin : vp_in (nI i) 6 := vp_in_nI (by omega) (by omega)
    by_cases z : ds i = 2
    · refine ⟨i, by omega, fun _ => z, ?_, ?_⟩
      · intro wc dl ns nb ca dn sn bm ba mk wo vt bo us ws wv nt post h
        rw [if_neg (by omega)] at h
        refine br_f h6 ⟨hin, ?_⟩
        rw [nI_clamp (by omega)]
        exact br_t z h
      · intros
        refine br_f h6 ⟨hin, ?_⟩
        rw [nI_clamp (by omega)]
        exact br_t z (by assumption)
    · obtain ⟨k, hk, hk2, hX, hY⟩ := ih (i + 1) (by omega)
      refine ⟨k, hk, hk2, ?_, ?_⟩
      · intro wc dl ns nb ca dn sn bm ba mk wo vt bo us ws wv nt post h
        refine br_f h6 ⟨hin, ?_⟩
        rw [nI_clamp (by omega)]
        exact br_f z (nm_r (nI_1 i) (hX post h))
      · intro dl ca sn bm dn wc nb ns ba mk vt bo ys yv nt yz post h
        refine br_f h6 ⟨hin, ?_⟩
        rw [nI_clamp (by omega)]
        exact br_f z (nm_r (nI_1 i) (hY post h))
def ds_u (ds : Nat → Int32) (k m : Nat) : Nat → Int32 := if m + 1 = 16 then upd ds k 0 else ds
theorem ds_k {k m : Nat} (hm : m < 16) (h : dk_k ds mk) : dk_k (ds_u ds k m) (upd mk k (nI (m + 1))) := by
  unfold ds_u
  intro i hi
  by_cases c : i = k
  · rw [c, pk_us]
    refine ⟨m + 1, by omega, rfl, ?_⟩
    by_cases e : m + 1 = 16
    · rw [if_pos e, pk_us]
      intro z
      exact absurd z (by decide)
    · intro _; omega
  · rw [pk_un c]
    obtain ⟨n, hn, e1, e2⟩ := h i hi
    refine ⟨n, hn, e1, ?_⟩
    by_cases e : m + 1 = 16
    · rw [if_pos e, pk_un c]; exact e2
    · rw [if_neg e]; exact e2
theorem xb_40 {post : SX → Prop} {k m : Nat} {z : Int32} (hk : k < 6) (hm : m < 16) (h : post (wc, dl, ns, nb, ca, dn, sn, bm, upd ba (k * 16 + m) z, ds_u ds k m, upd mk k (nI (m + 1)), wo, vt, bo, us, ws, wv, nt)) : wX_rebuildByte_40 post (nI k) (nI m) z wc dl ns nb ca dn sn bm ba ds mk wo vt bo us ws wv nt := by
  have hin : vp_in (nI k) 6 := vp_in_nI hk (by omega)
  refine ⟨pk_in (k * 16 + m) 96 (by omega) (rb_cell k m), ?_⟩
  rw [rb_cell, nI_clamp (by omega)]
  refine nm_e ⟨hin, ?_⟩
  rw [nI_clamp (by omega), nI_1]
  refine nm_e ⟨hin, ?_⟩
  rw [pk_us]
  unfold ds_u at h
  refine pk_eq (m + 1) 16 (fun c => ⟨hin, ?_⟩) (fun c => ?_)
  · rw [if_pos c] at h; exact nm_e h
  · rw [if_neg c] at h; exact h
theorem yb_93 {post : Int32 → SY → Prop} {J : Int32 → Int32 → Int32 → Int32 → Int32 → Int32 → Int32 → Int32 → Int32 → (Nat → Int32) → (Nat → Int32) → (Nat → Int32) → (Nat → Int32) → (Nat → Int32) → (Nat → Int32) → (Nat → Int32) → (Nat → Int32) → (Nat → Int32) → Prop} {x1 : Int32} {i k m : Nat} {z : Int32} (hk : k < 6) (hm : m < 16) (hmk : mk k = nI m) (h : J (nI (i + 1)) dl ca sn bm dn wc nb ns (upd ba (k * 16 + m) z) (ds_u ds k m) (upd mk k (nI (m + 1))) vt bo ys yv nt yz) : wY_rebuild_93 post J x1 (nI i) (nI k) (nI m) z dl ca sn bm dn wc nb ns ba ds mk vt bo ys yv nt yz := by
  have hin : vp_in (nI k) 6 := vp_in_nI hk (by omega)
  refine ⟨pk_in (k * 16 + m) 96 (by omega) (rb_cell' k m), ?_⟩
  rw [rb_cell', nI_clamp (by omega)]
  refine nm_e ⟨hin, hin, ?_⟩
  rw [nI_clamp (by omega), hmk, nI_1]
  refine nm_e ⟨hin, ?_⟩
  rw [pk_us]
  unfold ds_u at h
  refine pk_eq (m + 1) 16 (fun c => ⟨hin, ?_⟩) (fun c => nm_r (nI_1 i) ?_)
  · rw [if_pos c] at h; exact nm_e (nm_r (nI_1 i) h)
  · rw [if_neg c] at h; exact h
theorem se_x {k m : Nat} (hk : k < 6) (hm : m < 16) : ((nI k + 6) - (nI m - nI m / 6 * 6)) - ((nI k + 6) - (nI m - nI m / 6 * 6)) / 6 * 6 = nI ((k + 6 - m % 6) % 6) := by
  rw [rb_r6 (b := m) (by omega), show (6 : Int32) = nI 6 from rfl, nI_add, pk_sub (by omega)]
  exact rb_r6 (by omega)
theorem se_y {k m : Nat} (hk : k < 6) (hm : m < 16) : ((nI k - (nI m - nI m / 6 * 6)) + 6) - ((nI k - (nI m - nI m / 6 * 6)) + 6) / 6 * 6 = nI ((k + 6 - m % 6) % 6) := by
  have e : (nI k - (nI m - nI m / 6 * 6)) + 6 = (nI k + 6) - (nI m - nI m / 6 * 6) := by
    rw [Int32.sub_eq_add_neg, Int32.sub_eq_add_neg (nI k + 6), Int32.add_assoc, Int32.add_comm _ 6, ← Int32.add_assoc]
  rw [e]
  exact se_x hk hm
theorem rb_l {n d : Nat} (hn : n ≤ 16) : ∀ (e i : Nat) (w s b c : Nat) (ca dn bm : Int32) (ba ds mk wo vt bo us ws wv nt ys yv yz : Nat → Int32), i + e = n → rl_i w d s b c ca ba ds mk bo us ws wv ys yv nt → si_m (fun post => wX_rebuild_25 post (nI n) (e + 1) (nI i) (nI w) (nI d) (nI s) (nI b) ca dn (nI c) bm ba ds mk wo vt bo us ws wv nt) (fun post => wY_rebuild_24 post (nI n) (e + 1) (nI i) (nI d) ca (nI c) bm dn (nI w) (nI b) (nI s) ba ds mk vt bo ys yv nt yz) := by
  intro e
  induction e with
  | zero =>
    intro i w s b c ca dn bm ba ds mk wo vt bo us ws wv nt ys yv yz hi H
    have hi : i = n := by omega
    subst hi
    exact ⟨nI i, _, _, rl_m H, fun post hp => br_t (nI_le (Nat.le_refl i) (by omega)) hp, fun post hp => br_t (nI_le (Nat.le_refl i) (by omega)) hp⟩
  | succ e ih =>
    intro i w s b c ca dn bm ba ds mk wo vt bo us ws wv nt ys yv yz hi H
    have hge : ¬ nI n ≤ nI i := nI_ge (by omega) (by omega)
    obtain ⟨k, hk, hk2, lX, lY⟩ := ln_l (ds := ds) 6 0 (by omega)
    by_cases h6 : k = 6
    · subst h6
      exact ⟨nI i, _, _, rl_m H, fun post hp => br_f hge ⟨7, lX _ (br_f rb_n1le hp)⟩, fun post hp => br_f hge ⟨7, lY _ (br_t (by decide) hp)⟩⟩
    · have hk6 : k < 6 := by omega
      have hby := H.2.2.2.2.2.2.1
      have hdk := H.2.2.2.2.2.2.2.1
      obtain ⟨m, _, hmk, hm⟩ := hdk k hk6
      have hm := hm (hk2 hk6)
      have hin : vp_in (nI k) 6 := vp_in_nI hk6 (by omega)
      have h6y : ¬ (6 : Int32) ≤ nI k := nI_ge (b := 6) hk6 (by decide)
      have hk0 : (0 : Int32) ≤ nI k := nI_pos' (by omega)
      by_cases hlo : lo_v ds mk m = 0
      · obtain ⟨wo', yz', hag, hb6, fX, fY⟩ := fw_r (wc := nI w) (dl := nI d) (ns := nI s) (nb := nI b) (ca := ca) (dn := dn) (sn := nI c) (bm := bm) (wo := wo) (vt := vt) (bo := bo) (us := us) (ws := ws) (wv := wv) (nt := nt) (ys := ys) (yv := yv) (yz := yz) hm hby hlo
        have hse : (k + 6 - m % 6) % 6 < 6 := Nat.mod_lt _ (by decide)
        obtain ⟨r, u', v', R, hX, hY⟩ := ih (i + 1) w s b c ca dn bm (upd ba (k * 16 + m) (wo' ((k + 6 - m % 6) % 6))) (ds_u ds k m) (upd mk k (nI (m + 1))) wo' vt bo us ws wv nt ys yv yz' (by omega) (rl_dk H (ds_k hm hdk) (by_up hby (hb6 _ hse)))
        refine ⟨r, u', v', R, fun post hp => br_f hge ⟨7, lX _ ?_⟩, fun post hp => br_f hge ⟨7, lY _ (br_f h6y ⟨7, lY _ ⟨hin, ?_⟩⟩)⟩⟩
        · rw [if_neg h6]
          refine br_t hk0 ⟨hin, ?_⟩
          rw [nI_clamp (by omega), hmk]
          refine nm_e (xl_r hm (br_t hlo (fX _ ⟨rb_6, rb_6, ?_⟩)))
          rw [se_x hk6 hm]
          refine ⟨vp_in_nI hse (by omega), ?_⟩
          rw [nI_clamp (by omega)]
          exact nm_e (xb_40 hk6 hm (nm_r (nI_1 i) (hX post hp)))
        · rw [nI_clamp (by omega), hmk]
          refine nm_e ⟨rb_6, rb_6, nm_r (se_y hk6 hm) (yl_r hm (br_t hlo (fY _ ⟨vp_in_nI hse (by omega), ?_⟩)))⟩
          rw [nI_clamp (by omega), ← hag _ hse]
          exact nm_e (yb_93 hk6 hm hmk (hY post hp))
      · obtain ⟨r, u', v', R, hX, hY⟩ := ih (i + 1) w s b c ca dn bm (upd ba (k * 16 + m) 0) (ds_u ds k m) (upd mk k (nI (m + 1))) wo vt bo us ws wv nt ys yv yz (by omega) (rl_dk H (ds_k hm hdk) (by_up hby is_b0))
        refine ⟨r, u', v', R, fun post hp => br_f hge ⟨7, lX _ ?_⟩, fun post hp => br_f hge ⟨7, lY _ (br_f h6y ⟨7, lY _ ⟨hin, ?_⟩⟩)⟩⟩
        · rw [if_neg h6]
          refine br_t hk0 ⟨hin, ?_⟩
          rw [nI_clamp (by omega), hmk]
          exact nm_e (xl_r hm (br_f hlo (xb_40 hk6 hm (nm_r (nI_1 i) (hX post hp)))))
        · rw [nI_clamp (by omega), hmk]
          exact nm_e ⟨rb_6, rb_6, nm_r (se_y hk6 hm) (yl_r hm (br_f hlo (yb_93 hk6 hm hmk (hY post hp))))⟩
theorem n1_16 (p0 : Int32) : (p0 < 1) ∨ (¬ p0 < 1 ∧ ¬ p0 ≤ 16 ∧ (16 : Int32) < p0) ∨ ∃ n : Nat, n ≤ 16 ∧ p0 = nI n ∧ ¬ p0 < 1 ∧ p0 ≤ 16 ∧ ¬ (16 : Int32) < p0 := by
  rcases pk_ix p0 (n := 17) (by decide) with h | h | ⟨n, hn, rfl⟩
  · exact Or.inl (Int32.lt_trans h (by decide))
  · have h16 : (16 : Int32) < p0 := Int32.lt_of_lt_of_le (by decide) h
    exact Or.inr (Or.inl ⟨Int32.not_lt.mpr (Int32.le_trans (by decide) h), Int32.not_le.mpr h16, h16⟩)
  · by_cases h0 : n = 0
    · subst h0
      exact Or.inl (by decide)
    · exact Or.inr (Or.inr ⟨n, by omega, rfl, nI_nlt (b := 1) (by omega) (by omega), nI_le (b := 16) (by omega) (by decide), nI_nlt (a := 16) (b := n) (by omega) (by decide)⟩)
theorem si_rebuild {u : SX} {v : SY} (R : rl_s u v) (p0 : Int32) : si_m (fun post => wpX_rebuild post u p0) (fun post => wpY_rebuild post v p0) := by
  obtain ⟨w, d, s, b, c, ca, dn, bm, ba, ds, mk, wo, vt, bo, us, ws, wv, nt, ys, yv, yz, rfl, rfl, H⟩ := R
  by_cases hdn : dn = 0
  · rcases n1_16 p0 with h | ⟨h1, h2, h3⟩ | ⟨n, hn, rfl, h1, h2, h3⟩
    · exact ⟨-1, _, _, rl_m H, fun post hp => br_t hdn (br_t h hp), fun post hp => br_t hdn (br_t h (br_t rfl hp))⟩
    · exact ⟨-1, _, _, rl_m H, fun post hp => br_t hdn (br_f h1 (br_f h2 hp)), fun post hp => br_t hdn (br_f h1 (br_t h3 (br_t rfl hp)))⟩
    · obtain ⟨r, u', v', R, hX, hY⟩ := rb_l (n := n) hn n 0 w s b c ca dn bm ba ds mk wo vt bo us ws wv nt ys yv yz (by omega) H
      exact ⟨r, u', v', R, fun post hp => br_t hdn (br_f h1 (br_t h2 ⟨_, hX post hp⟩)), fun post hp => br_t hdn (br_f h1 (br_f h3 (br_f (by decide) ⟨_, hY post hp⟩)))⟩
  · exact ⟨-4, _, _, rl_m H, fun post hp => br_f hdn hp, fun post hp => br_f hdn hp⟩
/-! scrub -/
theorem cy_0 {s : Nat} : ∀ n : Nat, (∀ k : Nat, k < n → ¬ th_v ds mk ((s + k) % 6) s = 0) → cm_y ds mk s n = 0 := by
  intro n
  induction n with
  | zero => intro _; rfl
  | succ n ih =>
    intro h
    show cm_y ds mk s n + (if th_v ds mk ((s + n) % 6) s = 0 then 1 else 0) = 0
    rw [ih (fun k hk => h k (by omega)), if_neg (h n (by omega))]
theorem cy_1 {s k : Nat} (h : th_v ds mk ((s + k) % 6) s = 0) : ∀ n : Nat, k < n → 1 ≤ cm_y ds mk s n := by
  intro n
  induction n with
  | zero => intro hk; omega
  | succ n ih =>
    intro hk
    show 1 ≤ cm_y ds mk s n + (if th_v ds mk ((s + n) % 6) s = 0 then 1 else 0)
    by_cases c : k = n
    · rw [← c, if_pos h]; omega
    · have := ih (by omega)
      omega
theorem ym_0 {post : Int32 → SY → Prop} {s k : Nat} (hs : s < 16) (h : th_v ds mk ((s + k) % 6) s = 0) (hk : k < 6) (hp : post 0 (dl, ca, sn, bm, dn, wc, nb, ns, ba, ds, mk, vt, bo, ys, yv, nt, yz)) : ∀ e i : Nat, i + e = k → wY_mends_2 post (nI s) dl ca sn bm dn wc nb ns ba ds mk vt bo ys yv nt yz (e + 1) (nI i) := by
  intro e
  induction e with
  | zero =>
    intro i hi
    rw [show i = k by omega]
    exact br_f (nI_ge (b := 6) hk (by decide)) (yh_r hs hk (br_t h hp))
  | succ e ih =>
    intro i hi
    exact br_f (nI_ge (b := 6) (by omega) (by decide)) (yh_r hs (by omega) (br_c (fun _ => hp) (fun _ => nm_r (nI_1 i) (ih (i + 1) (by omega)))))
theorem ym_1 {post : Int32 → SY → Prop} {s : Nat} (hs : s < 16) (h : ∀ k : Nat, k < 6 → ¬ th_v ds mk ((s + k) % 6) s = 0) (hp : wY_mends_2 post (nI s) dl ca sn bm dn wc nb ns ba ds mk vt bo ys yv nt yz 1 (nI 6)) : ∀ e i : Nat, i + e = 6 → wY_mends_2 post (nI s) dl ca sn bm dn wc nb ns ba ds mk vt bo ys yv nt yz (e + 1) (nI i) := by
  intro e
  induction e with
  | zero =>
    intro i hi
    rw [show i = 6 by omega]
    exact hp
  | succ e ih =>
    intro i hi
    exact br_f (nI_ge (b := 6) (by omega) (by decide)) (yh_r hs (by omega) (br_f (h i (by omega)) (nm_r (nI_1 i) (ih (i + 1) (by omega)))))
theorem y9_f {post : Int32 → SY → Prop} {x1 p q x4 : Int32} (h0 : 0 ≤ x4) (hp : wY_mends_121 post x1 p q x4 dl ca sn bm dn wc nb ns ba ds mk vt bo ys yv nt yz) : ∀ e i : Nat, i + e = 4 → wY_mends_90 post x1 p q dl ca sn bm dn wc nb ns ba ds mk vt bo ys yv nt yz (e + 1) x4 (nI i) := by
  intro e
  induction e with
  | zero =>
    intro i hi
    rw [show i = 4 by omega]
    exact br_t (by decide) hp
  | succ e ih =>
    intro i hi
    exact br_f (nI_ge (b := 4) (by omega) (by decide)) (br_t h0 (nm_r (nI_1 i) (ih (i + 1) (by omega))))
theorem wr_l {p q : Int32} : ∀ e i : Nat, i + e = 4 → ∃ x4 : Int32, (x4 = -1 ∨ ∃ j : Nat, j < 6 ∧ x4 = nI j) ∧ (∀ {wc dl ns nb ca dn sn bm : Int32} {ba ds mk wo vt bo us ws wv nt : Nat → Int32} (post : Int32 → Prop), post x4 → wX_wrongSeat_14 post p q wc dl ns nb ca dn sn bm ba ds mk wo vt bo us ws wv nt (e + 1) (nI i)) ∧ (∀ {dl ca sn bm dn wc nb ns : Int32} {ba ds mk vt bo ys yv nt yz : Nat → Int32} (post : Int32 → SY → Prop) (x1 : Int32), wY_mends_121 post x1 p q x4 dl ca sn bm dn wc nb ns ba ds mk vt bo ys yv nt yz → wY_mends_90 post x1 p q dl ca sn bm dn wc nb ns ba ds mk vt bo ys yv nt yz (e + 1) (-1) (nI i)) := by
  intro e
  induction e with
  | zero =>
    intro i hi
    have hi : i = 4 := by omega
    subst hi
    refine ⟨-1, Or.inl rfl, ?_, ?_⟩
    · intros; exact br_t (by decide) (by assumption)
    · intros; exact br_t (by decide) (by assumption)
  | succ e ih =>
    intro i hi
    have h4 : ¬ (4 : Int32) ≤ nI i := nI_ge (b := 4) (by omega) (by decide)
    by_cases z : gf_d i p = q
    · refine ⟨nI i, Or.inr ⟨i, by omega, rfl⟩, ?_, ?_⟩
      · intros; exact br_f h4 (xp_r (by omega) (br_t z (by assumption)))
      · intro dl ca sn bm dn wc nb ns ba ds mk vt bo ys yv nt yz post x1 h
        exact br_f h4 (br_f rb_n1le (yp_r (by omega) (br_t z (nm_r (nI_1 i) (y9_f (nI_pos' (by omega)) h e (i + 1) (by omega))))))
    · obtain ⟨x4, h4', hX, hY⟩ := ih (i + 1) (by omega)
      refine ⟨x4, h4', ?_, ?_⟩
      · intro wc dl ns nb ca dn sn bm ba ds mk wo vt bo us ws wv nt post h
        exact br_f h4 (xp_r (by omega) (br_f z (nm_r (nI_1 i) (hX post h))))
      · intro dl ca sn bm dn wc nb ns ba ds mk vt bo ys yv nt yz post x1 h
        exact br_f h4 (br_f rb_n1le (yp_r (by omega) (br_f z (nm_r (nI_1 i) (hY post x1 h)))))
theorem wr_r (p q : Int32) : ∃ x4 : Int32, (x4 = -1 ∨ ∃ j : Nat, j < 6 ∧ x4 = nI j) ∧ (∀ {wc dl ns nb ca dn sn bm : Int32} {ba ds mk wo vt bo us ws wv nt : Nat → Int32} (post : Int32 → Prop), post x4 → wpX_wrongSeat post (wc, dl, ns, nb, ca, dn, sn, bm, ba, ds, mk, wo, vt, bo, us, ws, wv, nt) p q) ∧ (∀ {dl ca sn bm dn wc nb ns : Int32} {ba ds mk vt bo ys yv nt yz : Nat → Int32} (post : Int32 → SY → Prop) (x1 : Int32), wY_mends_121 post x1 p q x4 dl ca sn bm dn wc nb ns ba ds mk vt bo ys yv nt yz → wY_mends_67 post x1 p q (-1) dl ca sn bm dn wc nb ns ba ds mk vt bo ys yv nt yz) := by
  by_cases hq : q = 0
  · refine ⟨4, Or.inr ⟨4, by decide, rfl⟩, ?_, ?_⟩
    · intros; exact br_t hq (by assumption)
    · intros; exact br_t hq (by assumption)
  · by_cases hp : p = 0
    · refine ⟨5, Or.inr ⟨5, by decide, rfl⟩, ?_, ?_⟩
      · intros; exact br_f hq (br_t hp (by assumption))
      · intros; exact br_f hq (br_t hp (by assumption))
    · obtain ⟨x4, h4, hX, hY⟩ := wr_l (p := p) (q := q) 4 0 (by omega)
      refine ⟨x4, h4, ?_, ?_⟩
      · intro wc dl ns nb ca dn sn bm ba ds mk wo vt bo us ws wv nt post h
        exact br_f hq (br_f hp ⟨5, hX post h⟩)
      · intro dl ca sn bm dn wc nb ns ba ds mk vt bo ys yv nt yz post x1 h
        exact br_f hq (br_f hp ⟨5, hY post x1 h⟩)
/-- a stripe whose sums are wrong -/
theorem me_r {w d s b c t : Nat} {p q : Int32} (ht : t < 16) (hp : is_b p) (hq : is_b q) (H : rl_i w d s b c ca ba ds mk bo us ws wv ys yv nt) : ∃ (r bm' : Int32) (ba' : Nat → Int32), rl_i w d s b c ca ba' ds mk bo us ws wv ys yv nt ∧ (∀ post : Int32 → SX → Prop, post r (nI w, nI d, nI s, nI b, ca, dn, nI c, bm', ba', ds, mk, wo, vt, bo, us, ws, wv, nt) → wX_mendStripe_49 post (nI t) p q (nI w) (nI d) (nI s) (nI b) ca dn (nI c) bm ba ds mk wo vt bo us ws wv nt) ∧ (∀ post : Int32 → SY → Prop, post r (nI d, ca, nI c, bm', dn, nI w, nI b, nI s, ba', ds, mk, vt, bo, ys, yv, nt, yz) → wY_mends_67 post (nI t) p q (-1) (nI d) ca (nI c) bm dn (nI w) (nI b) (nI s) ba ds mk vt bo ys yv nt yz) := by
  have hby := H.2.2.2.2.2.2.1
  have hdk := H.2.2.2.2.2.2.2.1
  unfold wX_mendStripe_49
  obtain ⟨x4, h4, wX, wY⟩ := wr_r p q
  rcases h4 with rfl | ⟨j, hj, rfl⟩
  · exact ⟨0, bm + 1, ba, H, fun post hp => wX _ (br_f rb_n1le (nm_e hp)), fun post hp => wY post _ (br_f rb_n1le (nm_e (br_t rb_n1lt hp)))⟩
  · have hj0 : (0 : Int32) ≤ nI j := nI_pos' (by omega)
    have hjn : ¬ nI j < 0 := nI_pos (by omega)
    have hc : (t + j) % 6 * 16 + t < 96 := by omega
    have hcx : vp_in ((nI ((t + j) % 6) * 16) + nI t) 96 := pk_in _ 96 hc (rb_cell _ _)
    have hcy : vp_in (nI ((t + j) % 6 * 16 + t)) 96 := vp_in_nI hc (by omega)
    by_cases h5 : nI j = 5
    · refine ⟨1, bm, upd ba ((t + j) % 6 * 16 + t) (ba ((t + j) % 6 * 16 + t) ^^^ q), rl_dk H hdk (by_up hby (is_bx (hby _ hc) hq)), fun post hp => wX _ (br_t hj0 ⟨rb_6, nm_r (rb_dk (by omega) (by omega)) ⟨hcx, br_t h5 ⟨hcx, ?_⟩⟩⟩), fun post hp => wY post _ (br_t hj0 (yc_r ht hj ⟨hcy, br_t h5 ⟨hcy, ?_⟩⟩))⟩
      · rw [rb_cell, nI_clamp (by omega)]; exact nm_e hp
      · rw [nI_clamp (by omega)]; exact nm_e (br_f hjn hp)
    · refine ⟨1, bm, upd ba ((t + j) % 6 * 16 + t) (ba ((t + j) % 6 * 16 + t) ^^^ p), rl_dk H hdk (by_up hby (is_bx (hby _ hc) hp)), fun post hp => wX _ (br_t hj0 ⟨rb_6, nm_r (rb_dk (by omega) (by omega)) ⟨hcx, br_f h5 ⟨hcx, ?_⟩⟩⟩), fun post hp => wY post _ (br_t hj0 (yc_r ht hj ⟨hcy, br_f h5 ⟨hcy, ?_⟩⟩))⟩
      · rw [rb_cell, nI_clamp (by omega)]; exact nm_e hp
      · rw [nI_clamp (by omega)]; exact nm_e (br_f hjn hp)
theorem md_r {w d s b c t : Nat} (ht : t < 16) (H : rl_i w d s b c ca ba ds mk bo us ws wv ys yv nt) : ∃ (r bm' : Int32) (ba' wo' yz' : Nat → Int32), rl_i w d s b c ca ba' ds mk bo us ws wv ys yv nt ∧ (∀ post : Int32 → SX → Prop, post r (nI w, nI d, nI s, nI b, ca, dn, nI c, bm', ba', ds, mk, wo', vt, bo, us, ws, wv, nt) → wpX_mendStripe post (nI w, nI d, nI s, nI b, ca, dn, nI c, bm, ba, ds, mk, wo, vt, bo, us, ws, wv, nt) (nI t)) ∧ (∀ post : Int32 → SY → Prop, post r (nI d, ca, nI c, bm', dn, nI w, nI b, nI s, ba', ds, mk, vt, bo, ys, yv, nt, yz') → wpY_mends post (nI d, ca, nI c, bm, dn, nI w, nI b, nI s, ba, ds, mk, vt, bo, ys, yv, nt, yz) (nI t)) := by
  have hby := H.2.2.2.2.2.2.1
  have hcl := cm_le (ds := ds) (mk := mk) (s := t) 6
  unfold wpX_mendStripe
  by_cases hall : ∀ k : Nat, k < 6 → ¬ th_v ds mk ((t + k) % 6) t = 0
  · have h0 : cm_x ds mk t 6 = 0 := by rw [← cm_e]; exact cy_0 6 hall
    have hlo : lo_v ds mk t = 0 := by rw [lo_v, if_pos (by omega)]
    obtain ⟨wo', yz', hag, hb6, fX, fY⟩ := fw_r (wc := nI w) (dl := nI d) (ns := nI s) (nb := nI b) (ca := ca) (dn := dn) (sn := nI c) (bm := bm) (wo := wo) (vt := vt) (bo := bo) (us := us) (ws := ws) (wv := wv) (nt := nt) (ys := ys) (yv := yv) (yz := yz) ht hby hlo
    have e0 : nI (cm_x ds mk t 6) ≤ 0 := by rw [h0]; decide
    have ep : yz' 4 ^^^ sm_D yz' = wo' 4 ^^^ sm_D wo' := by rw [← hag 4 (by decide), ← ag_D hag]
    have eq : yz' 5 ^^^ sm_P yz' = wo' 5 ^^^ sm_P wo' := by rw [← hag 5 (by decide), ← ag_P hag]
    by_cases hz : wo' 4 ^^^ sm_D wo' = 0 ∧ wo' 5 ^^^ sm_P wo' = 0
    · refine ⟨0, bm, ba, wo', yz', H, fun post hp => xm_r ht (br_t e0 (fX _ (xd_r (nm_e (xs_r (nm_e (br_t hz.1 (br_t hz.2 hp)))))))), fun post hp => ⟨7, ym_1 ht hall (br_t (by decide) (fY _ (yd_r (nm_r ep (ys_r (nm_r eq (br_t hz.1 (br_t hz.2 hp)))))))) 6 0 (by omega)⟩⟩
    · obtain ⟨r, bm', ba', R, mX, mY⟩ := me_r (t := t) (p := wo' 4 ^^^ sm_D wo') (q := wo' 5 ^^^ sm_P wo') (dn := dn) (bm := bm) (wo := wo') (vt := vt) (yz := yz') ht (is_bx (hb6 4 (by decide)) (by_D hb6)) (is_bx (hb6 5 (by decide)) (by_P hb6)) H
      refine ⟨r, bm', ba', wo', yz', R, fun post hp => xm_r ht (br_t e0 (fX _ (xd_r (nm_e (xs_r (nm_e (br_c (fun z1 => br_f (fun z2 => hz ⟨z1, z2⟩) (mX post hp)) (fun _ => mX post hp)))))))), fun post hp => ⟨7, ym_1 ht hall (br_t (by decide) (fY _ (yd_r (nm_r ep (ys_r (nm_r eq (br_c (fun z1 => br_f (fun z2 => hz ⟨z1, z2⟩) (mY post hp)) (fun _ => mY post hp)))))))) 6 0 (by omega)⟩⟩
  · obtain ⟨k, hk⟩ := Classical.not_forall.mp hall
    obtain ⟨hk6, hk0⟩ := Classical.not_imp.mp hk
    have hk0 := Classical.not_not.mp hk0
    have h1 := cy_1 hk0 6 hk6
    rw [cm_e] at h1
    exact ⟨0, bm, ba, wo, yz, H, fun post hp => xm_r ht (br_f (nI_nle (by omega) (by omega)) hp), fun post hp => ⟨k + 1, ym_0 ht hk0 hk6 hp k 0 (by omega)⟩⟩
theorem rl_c {w d s b c e : Nat} (he : e < 16) (H : rl_i w d s b c ca ba ds mk bo us ws wv ys yv nt) : rl_i w d s b e ca ba ds mk bo us ws wv ys yv nt := by
  obtain ⟨hwd, hd, hs, hb, hc, hca, hby, hdk, hbo, hus, hwt, hnt⟩ := H
  exact ⟨hwd, hd, hs, hb, he, hca, hby, hdk, hbo, hus, hwt, hnt⟩
theorem cu_r {c : Nat} (hc : c < 16) : (nI c + 1) - (nI c + 1) / 16 * 16 = nI ((c + 1) % 16) := by
  rw [nI_1]; exact rb_r16 (by omega)
theorem sb_l {n d : Nat} (hn : n ≤ 16) : ∀ (e i : Nat) (x2 : Int32) (w s b c : Nat) (ca dn bm : Int32) (ba ds mk wo vt bo us ws wv nt ys yv yz : Nat → Int32), i + e = n → rl_i w d s b c ca ba ds mk bo us ws wv ys yv nt → si_m (fun post => wX_scrub_32 post (nI n) (e + 1) x2 (nI i) (nI w) (nI d) (nI s) (nI b) ca dn (nI c) bm ba ds mk wo vt bo us ws wv nt) (fun post => wY_scrub_31 post (nI n) (e + 1) x2 (nI i) (nI d) ca (nI c) bm dn (nI w) (nI b) (nI s) ba ds mk vt bo ys yv nt yz) := by
  intro e
  induction e with
  | zero =>
    intro i x2 w s b c ca dn bm ba ds mk wo vt bo us ws wv nt ys yv yz hi H
    have hi : i = n := by omega
    subst hi
    exact ⟨x2, _, _, rl_m H, fun post hp => br_t (nI_le (Nat.le_refl i) (by omega)) hp, fun post hp => br_t (nI_le (Nat.le_refl i) (by omega)) hp⟩
  | succ e ih =>
    intro i x2 w s b c ca dn bm ba ds mk wo vt bo us ws wv nt ys yv yz hi H
    have hge : ¬ nI n ≤ nI i := nI_ge (by omega) (by omega)
    have hc := H.2.2.2.2.1
    obtain ⟨r, bm', ba', wo', yz', R, mX, mY⟩ := md_r (t := c) (dn := dn) (bm := bm) (wo := wo) (vt := vt) (yz := yz) hc H
    have R' := rl_c (e := (c + 1) % 16) (by omega) R
    by_cases z : r = 0
    · obtain ⟨r2, u', v', R2, hX, hY⟩ := ih (i + 1) x2 w s b _ ca dn bm' ba' ds mk wo' vt bo us ws wv nt ys yv yz' (by omega) R'
      exact ⟨r2, u', v', R2, fun post hp => br_f hge (mX _ (br_t z ⟨rb_16, nm_r (cu_r hc) (nm_r (nI_1 i) (hX post hp))⟩)), fun post hp => br_f hge (mY _ (br_t z ⟨rb_16, nm_r (cu_r hc) (nm_r (nI_1 i) (hY post hp))⟩))⟩
    · obtain ⟨r2, u', v', R2, hX, hY⟩ := ih (i + 1) (x2 + 1) w s b _ ca dn bm' ba' ds mk wo' vt bo us ws wv nt ys yv yz' (by omega) R'
      exact ⟨r2, u', v', R2, fun post hp => br_f hge (mX _ (br_f z (nm_e ⟨rb_16, nm_r (cu_r hc) (nm_r (nI_1 i) (hX post hp))⟩))), fun post hp => br_f hge (mY _ (br_f z (nm_e ⟨rb_16, nm_r (cu_r hc) (nm_r (nI_1 i) (hY post hp))⟩)))⟩
theorem si_scrub {u : SX} {v : SY} (R : rl_s u v) (p0 : Int32) : si_m (fun post => wpX_scrub post u p0) (fun post => wpY_scrub post v p0) := by
  obtain ⟨w, d, s, b, c, ca, dn, bm, ba, ds, mk, wo, vt, bo, us, ws, wv, nt, ys, yv, yz, rfl, rfl, H⟩ := R
  by_cases hdn : dn = 0
  · rcases n1_16 p0 with h | ⟨h1, h2, h3⟩ | ⟨n, hn, rfl, h1, h2, h3⟩
    · exact ⟨-1, _, _, rl_m H, fun post hp => br_t hdn (br_t h hp), fun post hp => br_t hdn (br_t h (br_t rfl hp))⟩
    · exact ⟨-1, _, _, rl_m H, fun post hp => br_t hdn (br_f h1 (br_f h2 hp)), fun post hp => br_t hdn (br_f h1 (br_t h3 (br_t rfl hp)))⟩
    · obtain ⟨r, u', v', R, hX, hY⟩ := sb_l (n := n) hn n 0 0 w s b c ca dn 0 ba ds mk wo vt bo us ws wv nt ys yv yz (by omega) H
      exact ⟨r, u', v', R, fun post hp => br_t hdn (br_f h1 (br_t h2 ⟨_, hX post hp⟩)), fun post hp => br_t hdn (br_f h1 (br_f h3 (br_f (by decide) ⟨_, hY post hp⟩)))⟩
  · exact ⟨-4, _, _, rl_m H, fun post hp => br_f hdn hp, fun post hp => br_f hdn hp⟩
end
