section
variable {wc dl ns nb ca dn sn bm : Int32} {ba ds mk wo vt bo us ws wv nt ys yv yz : Nat → Int32}
/-! snapshot -/
theorem la_l : ∀ e i : Nat, i + e = 6 → ∃ k : Nat, k ≤ 6 ∧ (∀ {wc dl ns nb ca dn sn bm : Int32} {ba ds mk wo bo us ws wv nt : Nat → Int32} (post : Int32 → Prop), post (if k = 6 then -1 else nI k) → wX_leastAbsentVolume_2 post wc dl ns nb ca dn sn bm ba ds mk wo vt bo us ws wv nt (e + 1) (nI i)) ∧ (∀ {dl ca sn bm dn wc nb ns : Int32} {ba ds mk bo ys yv nt yz : Nat → Int32} (post : Int32 → SY → Prop) (x1 : Int32), wY_snapshot_87 post x1 (nI k) dl ca sn bm dn wc nb ns ba ds mk vt bo ys yv nt yz → wY_snapshot_66 post x1 dl ca sn bm dn wc nb ns ba ds mk vt bo ys yv nt yz (e + 1) (nI i)) := by
  intro e
  induction e with
  | zero =>
    intro i hi
    have hi : i = 6 := by omega
    subst hi
    refine ⟨6, by decide, ?_, ?_⟩
    · intros; exact br_t (by decide) (by assumption)
    · intros; exact br_t (by decide) (by assumption)
  | succ e ih =>
    intro i hi
    have h6 : ¬ (6 : Int32) ≤ nI i := nI_ge (b := 6) (by omega) (by decide)
    have hin : vp_in (nI i) 6 := vp_in_nI (by omega) (by omega)
    by_cases z : vt i = 0
    · refine ⟨i, by omega, ?_, ?_⟩
      · intro wc dl ns nb ca dn sn bm ba ds mk wo bo us ws wv nt post h
        rw [if_neg (by omega)] at h
        refine br_f h6 ⟨hin, ?_⟩
        rw [nI_clamp (by omega)]
        exact br_t z h
      · intros
        refine br_f h6 ⟨hin, ?_⟩
        rw [nI_clamp (by omega)]
        exact br_t z (by assumption)
    · obtain ⟨k, hk, hX, hY⟩ := ih (i + 1) (by omega)
      refine ⟨k, hk, ?_, ?_⟩
      · intro wc dl ns nb ca dn sn bm ba ds mk wo bo us ws wv nt post h
        refine br_f h6 ⟨hin, ?_⟩
        rw [nI_clamp (by omega)]
        exact br_f z (nm_r (nI_1 i) (hX post h))
      · intro dl ca sn bm dn wc nb ns ba ds mk bo ys yv nt yz post x1 h
        refine br_f h6 ⟨hin, ?_⟩
        rw [nI_clamp (by omega)]
        exact br_f z (nm_r (nI_1 i) (hY post x1 h))
theorem sc_l {v k w d s b c : Nat} (hv : v < 6) (hk : k < 6) : ∀ (e i : Nat) (bo us : Nat → Int32), i + e = 20 → rl_i w d s b c ca ba ds mk bo us ws wv ys yv nt → ∃ bo' us' : Nat → Int32, rl_i w d s b c ca ba ds mk bo' us' ws wv ys yv nt ∧ (∀ post : Int32 → SX → Prop, post (nI k) (nI w, nI d, nI s, nI b, ca, dn, nI c, bm, ba, ds, mk, wo, vt, bo', us', ws, wv, nt) → wX_snapshot_100 post (nI v) (nI k) (e + 1) (nI i) (nI w) (nI d) (nI s) (nI b) ca dn (nI c) bm ba ds mk wo vt bo us ws wv nt) ∧ (∀ post : Int32 → SY → Prop, post (nI k) (nI d, ca, nI c, bm, dn, nI w, nI b, nI s, ba, ds, mk, vt, bo', ys, yv, nt, yz) → wY_snapshot_106 post (nI v) (nI k) (nI d) ca (nI c) bm dn (nI w) (nI b) (nI s) (e + 1) (nI i) ba ds mk vt bo ys yv nt yz) := by
  intro e
  induction e with
  | zero =>
    intro i bo us hi H
    rw [show i = 20 by omega]
    exact ⟨bo, us, H, fun post hp => br_t (by decide) hp, fun post hp => br_t (by decide) hp⟩
  | succ e ih =>
    intro i bo us hi H
    have h20 : ¬ (20 : Int32) ≤ nI i := nI_ge (b := 20) (by omega) (by decide)
    have hbo := H.2.2.2.2.2.2.2.2.1
    have hx : bk_k (bo (v * 20 + i)) := hbo _ (by omega)
    obtain ⟨bo', us', R, hX, hY⟩ := ih (i + 1) _ _ (by omega) (rl_bo (l := k * 20 + i) (by omega) hx H)
    refine ⟨bo', us', R, fun post hp => br_f h20 ⟨pk_in (v * 20 + i) 120 (by omega) (rb_slot v i), ?_⟩, fun post hp => br_f h20 ⟨pk_in (v * 20 + i) 120 (by omega) (rb_slot' v i), pk_in (k * 20 + i) 120 (by omega) (rb_slot' k i), ?_⟩⟩
    · rw [rb_slot, rb_slot, nI_clamp (by omega)]
      exact xo_p (by omega) hx hbo (nm_r (nI_1 i) (hX post hp))
    · rw [rb_slot', rb_slot', nI_clamp (by omega), nI_clamp (by omega)]
      exact nm_e (nm_r (nI_1 i) (hY post hp))
theorem sn_e {v w d s b c : Nat} (hv : v < 6) (H : rl_i w d s b c ca ba ds mk bo us ws wv ys yv nt) : si_m (fun post => wX_snapshot_78 post (nI v) (nI w) (nI d) (nI s) (nI b) ca dn (nI c) bm ba ds mk wo vt bo us ws wv nt) (fun post => ∃ n66 : Nat, wY_snapshot_66 post (nI v) (nI d) ca (nI c) bm dn (nI w) (nI b) (nI s) ba ds mk vt bo ys yv nt yz n66 0) := by
  obtain ⟨k, hk, hX, hY⟩ := la_l (vt := vt) 6 0 (by omega)
  by_cases h6 : k = 6
  · subst h6
    refine ⟨-2, _, _, rl_m (dn := dn) (bm := bm) (wo := wo) (vt := vt) (yz := yz) H, fun post hp => ?_, fun post hp => ⟨7, hY post _ (br_t rfl hp)⟩⟩
    exact ⟨7, hX _ (br_f rb_n1le hp)⟩
  · obtain ⟨bo', us', R, cX, cY⟩ := sc_l (v := v) (k := k) (dn := dn) (bm := bm) (wo := wo) (vt := upd vt k (vp_nar .boolean 1)) (yz := yz) hv (by omega) 20 0 bo us (by omega) H
    refine ⟨nI k, _, _, rl_m (dn := dn) (bm := bm) (wo := wo) (vt := upd vt k (vp_nar .boolean 1)) (yz := yz) R, fun post hp => ?_, fun post hp => ⟨7, hY post _ ?_⟩⟩
    · refine ⟨7, hX _ ?_⟩
      rw [if_neg h6]
      refine br_t (nI_pos' (by omega)) ⟨vp_in_nI (by omega) (by omega), ?_⟩
      rw [nI_clamp (by omega)]
      exact nm_e ⟨21, cX post hp⟩
    · refine pk_eq k 6 (fun z => absurd z h6) (fun _ => ⟨vp_in_nI (by omega) (by omega), ?_⟩)
      rw [nI_clamp (by omega)]
      exact nm_e ⟨21, cY post hp⟩
theorem sn_l {v d : Nat} (hv : v < 6) : ∀ (e a i w s b c : Nat) (ca dn bm : Int32) (ba ds mk wo vt bo us ws wv nt ys yv yz : Nat → Int32), a + e = w → e + i ≤ 6 → rl_i w d s b c ca ba ds mk bo us ws wv ys yv nt → si_m (fun post => wX_snapshot_24 post (nI v) (e + 1) (nI a) (nI i) (nI w) (nI d) (nI s) (nI b) ca dn (nI c) bm ba ds mk wo vt bo us ws wv nt) (fun post => wY_snapshot_22 post (nI v) (e + 1) (nI a) (nI d) ca (nI c) bm dn (nI w) (nI b) (nI s) ba ds mk vt bo ys yv nt yz) := by
  intro e
  induction e with
  | zero =>
    intro a i w s b c ca dn bm ba ds mk wo vt bo us ws wv nt ys yv yz ha hi H
    have hw6 : w ≤ 6 := Nat.le_trans H.1 H.2.1
    obtain ⟨r, u', v', R, hX, hY⟩ := sn_e (v := v) (dn := dn) (bm := bm) (wo := wo) (vt := vt) (yz := yz) hv H
    have hle : nI w ≤ nI a := nI_le (by omega) (by omega)
    exact ⟨r, u', v', R, fun post hp => br_c (fun _ => hX post hp) (fun _ => br_t hle (hX post hp)), fun post hp => br_t hle (hY post hp)⟩
  | succ e ih =>
    intro a i w s b c ca dn bm ba ds mk wo vt bo us ws wv nt ys yv yz ha hi H
    have hw6 : w ≤ 6 := Nat.le_trans H.1 H.2.1
    have h6 : ¬ (6 : Int32) ≤ nI i := nI_ge (b := 6) (by omega) (by decide)
    have hge : ¬ nI w ≤ nI a := nI_ge (by omega) (by omega)
    have hin : vp_in (nI a) 6 := vp_in_nI (by omega) (by omega)
    have hya := (H.2.2.2.2.2.2.2.2.2.2.1.1 a (by omega)).1
    by_cases z : ws a / 20 = nI v
    · obtain ⟨r2, w2, s2, b2, ca2, dn2, ba2, wo2, bo2, us2, ws2, wv2, nt2, ys2, yv2, yz2, R2, hr2, _, wX, wY⟩ := ww_r (a := a) (dn := dn) (bm := bm) (wo := wo) (vt := vt) (yz := yz) (by omega) H
      by_cases y : r2 = 0
      · have hw2 := hr2 y
        obtain ⟨r, u', v', R, hX, hY⟩ := ih a (i + 1) w2 s2 b2 c ca2 dn2 bm ba2 ds mk wo2 vt bo2 us2 ws2 wv2 nt2 ys2 yv2 yz2 (by omega) (by omega) R2
        refine ⟨r, u', v', R, fun post hp => br_f h6 (br_f hge ⟨hin, rb_20, ?_⟩), fun post hp => br_f hge ⟨hin, rb_20, ?_⟩⟩
        · rw [nI_clamp (by omega)]; exact br_t z (wX _ (br_t y (nm_r (nI_1 i) (hX post hp))))
        · rw [nI_clamp (by omega), hya]; exact br_t z (wY _ (br_t y (hY post hp)))
      · refine ⟨r2, _, _, rl_m (dn := dn2) (bm := bm) (wo := wo2) (vt := vt) (yz := yz2) R2, fun post hp => br_f h6 (br_f hge ⟨hin, rb_20, ?_⟩), fun post hp => br_f hge ⟨hin, rb_20, ?_⟩⟩
        · rw [nI_clamp (by omega)]; exact br_t z (wX _ (br_f y hp))
        · rw [nI_clamp (by omega), hya]; exact br_t z (wY _ (br_f y hp))
    · obtain ⟨r, u', v', R, hX, hY⟩ := ih (a + 1) (i + 1) w s b c ca dn bm ba ds mk wo vt bo us ws wv nt ys yv yz (by omega) (by omega) H
      refine ⟨r, u', v', R, fun post hp => br_f h6 (br_f hge ⟨hin, rb_20, ?_⟩), fun post hp => br_f hge ⟨hin, rb_20, ?_⟩⟩
      · rw [nI_clamp (by omega)]; exact br_f z (nm_r (nI_1 a) (nm_r (nI_1 i) (hX post hp)))
      · rw [nI_clamp (by omega), hya]; exact br_f z (nm_r (nI_1 a) (hY post hp))
theorem si_snapshot {u : SX} {v : SY} (R : rl_s u v) (p0 : Int32) : si_m (fun post => wpX_snapshot post u p0) (fun post => wpY_snapshot post v p0) := by
  obtain ⟨w, d, s, b, c, ca, dn, bm, ba, ds, mk, wo, vt, bo, us, ws, wv, nt, ys, yv, yz, rfl, rfl, H⟩ := R
  by_cases hdn : dn = 0
  · obtain ⟨r, hr, vX, vY⟩ := vo_r (vt := vt) p0
    rcases hr with rfl | ⟨rfl, v, hv, rfl⟩
    · exact ⟨-1, _, _, rl_m H, fun post hp => br_t hdn (vX _ (br_t rfl hp)), fun post hp => br_t hdn (vY _ (br_t rfl hp))⟩
    · have hw6 : w ≤ 6 := Nat.le_trans H.1 H.2.1
      obtain ⟨r, u', v', R, hX, hY⟩ := sn_l (v := v) hv w 0 0 w s b c ca dn bm ba ds mk wo vt bo us ws wv nt ys yv yz (by omega) (by omega) H
      exact ⟨r, u', v', R, fun post hp => br_t hdn (vX _ (br_f (by decide) ⟨_, hX post hp⟩)), fun post hp => br_t hdn (vY _ (br_f (by decide) ⟨_, hY post hp⟩))⟩
  · exact ⟨-4, _, _, rl_m H, fun post hp => br_f hdn hp, fun post hp => br_f hdn hp⟩
/-! how many blocks have so many lblocks on them -/
def cn_b (bo : Nat → Int32) (lo hi : Nat) : Nat → Nat
  | 0 => 0
  | n + 1 => cn_b bo lo hi n + if lo ≤ ct_n bo (nI n) 120 ∧ ct_n bo (nI n) 120 ≤ hi then 1 else 0
theorem cb_l {post : Int32 → Prop} {lo hi : Nat} (hu : us_k us bo) (hlo : lo < 2 ^ 31) (hhi : hi < 2 ^ 31) (hp : post (nI (cn_b bo lo hi 64))) : ∀ e i : Nat, i + e = 64 → wX_countBlocks_5 post (nI lo) (nI hi) wc dl ns nb ca dn sn bm ba ds mk wo vt bo us ws wv nt (e + 1) (nI (cn_b bo lo hi i)) (nI i) := by
  intro e
  induction e with
  | zero =>
    intro i hi'
    rw [show i = 64 by omega]
    exact br_t (by decide) hp
  | succ e ih =>
    intro i hi'
    have ih := ih (i + 1) (by omega)
    have hle := ct_le (bo := bo) (nI i) 120
    have hin : vp_in (nI i) 64 := vp_in_nI (by omega) (by omega)
    have e1 : cn_b bo lo hi (i + 1) = cn_b bo lo hi i + if lo ≤ ct_n bo (nI i) 120 ∧ ct_n bo (nI i) 120 ≤ hi then 1 else 0 := rfl
    rw [e1] at ih
    refine br_f (nI_ge (b := 64) (by omega) (by decide)) ⟨hin, ?_⟩
    rw [nI_clamp (by omega), hu i (by omega)]
    refine pk_lt _ _ (fun z => nm_r (nI_1 i) ?_) (fun z => ⟨hin, pk_lt _ _ (fun y => nm_r (nI_1 i) ?_) (fun y => nm_r (nI_1 _) (nm_r (nI_1 i) ?_))⟩)
    · rw [if_neg (by omega)] at ih; exact ih
    · rw [if_neg (by omega)] at ih; exact ih
    · rw [if_pos (by omega)] at ih; exact ih
theorem cb_r {post : Int32 → Prop} {lo hi : Nat} (hu : us_k us bo) (hlo : lo < 2 ^ 31) (hhi : hi < 2 ^ 31) (hp : post (nI (cn_b bo lo hi 64))) : wpX_countBlocks post (wc, dl, ns, nb, ca, dn, sn, bm, ba, ds, mk, wo, vt, bo, us, ws, wv, nt) (nI lo) (nI hi) :=
  ⟨65, cb_l hu hlo hhi hp 64 0 (by omega)⟩
theorem fr_l {post : Int32 → Prop} (hp : post (nI (cn_b bo 0 0 64))) : ∀ e i : Nat, i + e = 64 → wY_free_4 post dl ca sn bm dn wc nb ns ba ds mk vt bo ys yv nt yz (e + 1) (nI (cn_b bo 0 0 i)) (nI i) := by
  intro e
  induction e with
  | zero =>
    intro i hi'
    rw [show i = 64 by omega]
    exact br_t (by decide) hp
  | succ e ih =>
    intro i hi'
    have ih := ih (i + 1) (by omega)
    have hle := ct_le (bo := bo) (nI i) 120
    have e1 : cn_b bo 0 0 (i + 1) = cn_b bo 0 0 i + if 0 ≤ ct_n bo (nI i) 120 ∧ ct_n bo (nI i) 120 ≤ 0 then 1 else 0 := rfl
    rw [e1] at ih
    refine br_f (nI_ge (b := 64) (by omega) (by decide)) (yu_r (pk_eq _ 0 (fun z => nm_r (nI_1 _) (nm_r (nI_1 i) ?_)) (fun z => nm_r (nI_1 i) ?_)))
    · rw [if_pos (by omega)] at ih; exact ih
    · rw [if_neg (by omega)] at ih; exact ih
theorem fr_r {post : Int32 → Prop} (hp : post (nI (cn_b bo 0 0 64))) : wpY_free post (dl, ca, sn, bm, dn, wc, nb, ns, ba, ds, mk, vt, bo, ys, yv, nt, yz) := ⟨65, fr_l hp 64 0 (by omega)⟩
/-! drop -/
def dr_b (bo : Nat → Int32) (v : Nat) : Nat → Nat → Int32
  | 0 => bo
  | i + 1 => upd (dr_b bo v i) (v * 20 + i) (-1)
theorem dr_k {v : Nat} (h : bo_k bo) : ∀ i : Nat, bo_k (dr_b bo v i) := by
  intro i
  induction i with
  | zero => exact h
  | succ i ih => exact bo_p bk_n ih
/-- those that stay, in their order -/
def ql_f (v : Nat) (a b : Nat → Int32) : Nat → List (Int32 × Int32)
  | 0 => []
  | n + 1 => ql_f v a b n ++ if a n / 20 = nI v then [] else [(a n, b n)]
theorem ql_e {v : Nat} {a b a' b' : Nat → Int32} : ∀ n : Nat, (∀ j : Nat, j < n → a' j = a j ∧ b' j = b j) → ql_f v a' b' n = ql_f v a b n := by
  intro n
  induction n with
  | zero => intro _; rfl
  | succ n ih =>
    intro h
    show ql_f v a' b' n ++ (if a' n / 20 = nI v then [] else [(a' n, b' n)]) = ql_f v a b n ++ (if a n / 20 = nI v then [] else [(a n, b n)])
    rw [ih (fun j hj => h j (by omega)), (h n (by omega)).1, (h n (by omega)).2]
theorem ql_s {v i : Nat} {a b : Nat → Int32} (hi : a i / 20 = nI v) : ∀ n e : Nat, i + n ≤ e → ql_f v (sh_f a i e) (sh_f b i e) (i + n) = ql_f v a b (i + n + 1) := by
  intro n
  induction n with
  | zero =>
    intro e he
    show ql_f v (sh_f a i e) (sh_f b i e) i = ql_f v a b i ++ (if a i / 20 = nI v then [] else [(a i, b i)])
    rw [if_pos hi, List.append_nil]
    exact ql_e i (fun j hj => ⟨sh_lo hj, sh_lo hj⟩)
  | succ n ih =>
    intro e he
    have e1 : ql_f v (sh_f a i e) (sh_f b i e) (i + (n + 1)) = ql_f v (sh_f a i e) (sh_f b i e) (i + n) ++ (if sh_f a i e (i + n) / 20 = nI v then [] else [(sh_f a i e (i + n), sh_f b i e (i + n))]) := rfl
    have e2 : ql_f v a b (i + (n + 1) + 1) = ql_f v a b (i + n + 1) ++ (if a (i + n + 1) / 20 = nI v then [] else [(a (i + n + 1), b (i + n + 1))]) := rfl
    rw [e1, e2, ih e (by omega), sh_hi (a := a) (by omega) (by omega), sh_hi (a := b) (by omega) (by omega)]
theorem ql_r {v i w : Nat} {a b : Nat → Int32} (hi : a i / 20 = nI v) (hw : i ≤ w) : ql_f v (sh_f a i w) (sh_f b i w) w = ql_f v a b (w + 1) := by
  have := ql_s (b := b) hi (w - i) w (by omega)
  rw [show i + (w - i) = w by omega] at this
  exact this
theorem ql_a {v : Nat} {a b : Nat → Int32} : ∀ w : Nat, (∀ j : Nat, j < w → ¬ a j / 20 = nI v) → (ql_f v a b w).length = w ∧ ∀ j : Nat, j < w → (ql_f v a b w)[j]? = some (a j, b j) := by
  intro w
  induction w with
  | zero => intro _; exact ⟨rfl, fun j hj => absurd hj (by omega)⟩
  | succ w ih =>
    intro h
    obtain ⟨h1, h2⟩ := ih (fun j hj => h j (by omega))
    have e1 : ql_f v a b (w + 1) = ql_f v a b w ++ [(a w, b w)] := by
      show ql_f v a b w ++ (if a w / 20 = nI v then [] else [(a w, b w)]) = _
      rw [if_neg (h w (by omega))]
    rw [e1]
    refine ⟨by rw [List.length_append, h1]; rfl, fun j hj => ?_⟩
    by_cases c : j < w
    · rw [List.getElem?_append_left (by omega)]
      exact h2 j c
    · have hjw : j = w := by omega
      subst hjw
      rw [List.getElem?_append_right (by omega), h1, Nat.sub_self]
      rfl
theorem wt_x {w : Nat} (h : wt_k w ws wv ys yv) : wt_k w ws wv ws wv := ⟨fun i hi => ⟨rfl, rfl, (h.1 i hi).2.2⟩, h.2⟩
theorem wt_y {w : Nat} (h : wt_k w ws wv ys yv) : wt_k w ys yv ys yv := ⟨fun i hi => ⟨rfl, rfl, by rw [(h.1 i hi).1, (h.1 i hi).2.1]; exact (h.1 i hi).2.2⟩, fun i j hij hj => by rw [(h.1 i (by omega)).1, (h.1 j hj).1]; exact h.2 i j hij hj⟩
theorem sl_20 {v k : Nat} (hv : v < 6) (hk : k < 20) : nI (v * 20 + k) / 20 = nI v := by
  rw [rb_d20 (by omega), show (v * 20 + k) / 20 = v by omega]
theorem xg_l {v : Nat} (hv : v < 6) (hb : bo_k bo) : ∀ (e i w : Nat) (us ws wv : Nat → Int32), i + e = 20 → w ≤ 6 → us_k us (dr_b bo v i) → wt_k w ws wv ws wv → (∀ k : Nat, k < i → ∀ j : Nat, j < w → ws j ≠ nI (v * 20 + k)) → ∃ (w' : Nat) (us' ws' wv' : Nat → Int32), w' ≤ w ∧ us_k us' (dr_b bo v 20) ∧ wt_k w' ws' wv' ws' wv' ∧ (∀ k : Nat, k < 20 → ∀ j : Nat, j < w' → ws' j ≠ nI (v * 20 + k)) ∧ ql_f v ws' wv' w' = ql_f v ws wv w ∧ (∀ {dl ns nb ca dn sn bm : Int32} {ba ds mk wo vt nt : Nat → Int32} (post : Int32 → SX → Prop) (x2 : Int32), wX_drop_29 post (nI v) x2 1 (nI 20) (nI w') dl ns nb ca dn sn bm ba ds mk wo vt (dr_b bo v 20) us' ws' wv' nt → wX_drop_29 post (nI v) x2 (e + 1) (nI i) (nI w) dl ns nb ca dn sn bm ba ds mk wo vt (dr_b bo v i) us ws wv nt) := by
  intro e
  induction e with
  | zero =>
    intro i w us ws wv hi hw hu hk hn
    have hi : i = 20 := by omega
    subst hi
    refine ⟨w, us, ws, wv, Nat.le_refl w, hu, hk, hn, rfl, ?_⟩
    intros
    assumption
  | succ e ih =>
    intro i w us ws wv hi hw hu hk hn
    have h20 : ¬ (20 : Int32) ≤ nI i := nI_ge (b := 20) (by omega) (by decide)
    have hbi := dr_k (v := v) hb i
    obtain ⟨r, w', ws', wv', ys', yv', hk', hn', hlt, hge, fX, _, _⟩ := fg_r (l := v * 20 + i) hw hk
    have hq : w' ≤ w ∧ ql_f v ws' wv' w' = ql_f v ws wv w ∧ ∀ j : Nat, j < w' → ∃ m : Nat, m < w ∧ ws' j = ws m := by
      by_cases hr : r < 0
      · obtain ⟨rfl, rfl, rfl, _, _⟩ := hlt hr
        exact ⟨Nat.le_refl _, rfl, fun j hj => ⟨j, hj, rfl⟩⟩
      · obtain ⟨hw', a, ha, hl, rfl, rfl⟩ := hge hr
        subst hw'
        refine ⟨by omega, ql_r (by rw [hl]; exact sl_20 hv (by omega)) ha, fun j hj => ?_⟩
        obtain ⟨m, hm, e⟩ := sh_at (a := ws) (i := a) hj
        exact ⟨m, by omega, e ws⟩
    obtain ⟨hq1, hq2, hq3⟩ := hq
    obtain ⟨w2, us2, ws2, wv2, g1, g2, g3, g4, g5, g6⟩ := ih (i + 1) w' (pu_i (pu_d us (dr_b bo v i (v * 20 + i))) (-1)) ws' wv' (by omega) (by omega) (us_p (by omega) bk_n hbi hu) (wt_x hk') (fun k hk j hj => by
      by_cases c : k = i
      · rw [c]; exact hn' j hj
      · obtain ⟨m, hm, e⟩ := hq3 j hj
        rw [e]
        exact hn k (by omega) m hm)
    refine ⟨w2, us2, ws2, wv2, by omega, g2, g3, g4, by rw [g5, hq2], ?_⟩
    intro dl ns nb ca dn sn bm ba ds mk wo vt nt post x2 hp
    refine br_f h20 ?_
    rw [rb_slot]
    exact xo_p (by omega) bk_n hbi (fX _ (nm_r (nI_1 i) (g6 post x2 hp)))
theorem yg_b {post : Int32 → SY → Prop} {v : Nat} {x2 : Int32} (hv : v < 6) (h : wY_drop_34 post (nI v) x2 dl ca sn bm dn wc nb ns 1 (nI 20) ba ds mk vt (dr_b bo v 20) ys yv nt yz) : ∀ e i : Nat, i + e = 20 → wY_drop_34 post (nI v) x2 dl ca sn bm dn wc nb ns (e + 1) (nI i) ba ds mk vt (dr_b bo v i) ys yv nt yz := by
  intro e
  induction e with
  | zero =>
    intro i hi
    rw [show i = 20 by omega]
    exact h
  | succ e ih =>
    intro i hi
    refine br_f (nI_ge (b := 20) (by omega) (by decide)) ⟨pk_in (v * 20 + i) 120 (by omega) (rb_slot' v i), ?_⟩
    rw [rb_slot', nI_clamp (by omega)]
    exact nm_e (nm_r (nI_1 i) (ih (i + 1) (by omega)))
theorem yg_l {v : Nat} : ∀ (i w : Nat) (ys yv : Nat → Int32), i ≤ w → w ≤ 6 → wt_k w ys yv ys yv → (∀ j : Nat, i ≤ j → j < w → ¬ ys j / 20 = nI v) → ∃ (w' : Nat) (ys' yv' : Nat → Int32), w' ≤ w ∧ wt_k w' ys' yv' ys' yv' ∧ (∀ j : Nat, j < w' → ¬ ys' j / 20 = nI v) ∧ ql_f v ys' yv' w' = ql_f v ys yv w ∧ (∀ {dl ca sn bm dn nb ns : Int32} {ba ds mk vt bo nt yz : Nat → Int32} (post : Int32 → SY → Prop) (x2 : Int32), wY_drop_65 post (nI v) x2 1 (-1) dl ca sn bm dn (nI w') nb ns ba ds mk vt bo ys' yv' nt yz → wY_drop_65 post (nI v) x2 (i + 1) (nI i + (-1)) dl ca sn bm dn (nI w) nb ns ba ds mk vt bo ys yv nt yz) := by
  intro i
  induction i with
  | zero =>
    intro w ys yv hi hw hk hn
    refine ⟨w, ys, yv, Nat.le_refl w, hk, fun j hj => hn j (by omega) hj, rfl, ?_⟩
    intros
    assumption
  | succ i ih =>
    intro w ys yv hi hw hk hn
    have h0 : ¬ nI i < 0 := nI_pos (by omega)
    have hin : vp_in (nI i) 6 := vp_in_nI (by omega) (by omega)
    by_cases z : ys i / 20 = nI v
    · obtain ⟨m, rfl⟩ : ∃ m, w = m + 1 := ⟨w - 1, by omega⟩
      obtain ⟨w', ys', yv', g1, g2, g3, g4, g5⟩ := ih m (sh_f ys i m) (sh_f yv i m) (by omega) (by omega) (wt_x (wt_rm (by omega) hk)) (fun j hj hjm => by rw [sh_hi hj hjm]; exact hn (j + 1) (by omega) (by omega))
      refine ⟨w', ys', yv', by omega, g2, g3, by rw [g4, ql_r z (by omega)], ?_⟩
      intro dl ca sn bm dn nb ns ba ds mk vt bo nt yz post x2 hp
      rw [pk_m1]
      refine br_f h0 ⟨hin, rb_20, ?_⟩
      rw [nI_clamp (by omega)]
      exact br_t z (yr_r (by omega) (by omega) (nm_e (g5 post x2 hp)))
    · obtain ⟨w', ys', yv', g1, g2, g3, g4, g5⟩ := ih w ys yv (by omega) hw hk (fun j hj hjw => by
        by_cases c : j = i
        · rw [c]; exact z
        · exact hn j (by omega) hjw)
      refine ⟨w', ys', yv', g1, g2, g3, g4, ?_⟩
      intro dl ca sn bm dn nb ns ba ds mk vt bo nt yz post x2 hp
      rw [pk_m1]
      refine br_f h0 ⟨hin, rb_20, ?_⟩
      rw [nI_clamp (by omega)]
      exact br_f z (nm_e (g5 post x2 hp))
theorem si_drop {u : SX} {v : SY} (R : rl_s u v) (p0 : Int32) : si_m (fun post => wpX_drop post u p0) (fun post => wpY_drop post v p0) := by
  obtain ⟨w, d, s, b, c, ca, dn, bm, ba, ds, mk, wo, vt, bo, us, ws, wv, nt, ys, yv, yz, rfl, rfl, H⟩ := R
  by_cases hdn : dn = 0
  · obtain ⟨r, hr, vX, vY⟩ := vo_r (vt := vt) p0
    rcases hr with rfl | ⟨rfl, v, hv, rfl⟩
    · exact ⟨-1, _, _, rl_m H, fun post hp => br_t hdn (vX _ (br_t rfl hp)), fun post hp => br_t hdn (vY _ (br_t rfl hp))⟩
    · have hw6 : w ≤ 6 := Nat.le_trans H.1 H.2.1
      obtain ⟨hwd, hd, hs, hb, hc, hca, hby, hdk, hbo, hus, hwt, hnt⟩ := H
      have hin : vp_in (nI v) 6 := vp_in_nI hv (by omega)
      obtain ⟨w1, us1, ws1, wv1, a1, a2, a3, a4, a5, a6⟩ := xg_l (v := v) hv hbo 20 0 w us ws wv (by omega) hw6 hus (wt_x hwt) (fun k hk => absurd hk (by omega))
      obtain ⟨w2, ys2, yv2, b1, b2, b3, b4, b5⟩ := yg_l (v := v) w w ys yv (Nat.le_refl w) hw6 (wt_y hwt) (fun j hj hjw => absurd hj (by omega))
      have hX : ∀ j : Nat, j < w1 → ¬ ws1 j / 20 = nI v := by
        intro j hj z
        obtain ⟨l, hl, e⟩ := (a3.1 j hj).2.2.1
        rw [e, rb_d20 (by omega), nI_eq (by omega) (by omega)] at z
        exact a4 (l % 20) (by omega) j hj (by rw [e, show v * 20 + l % 20 = l by omega])
      have hq : ql_f v ws1 wv1 w1 = ql_f v ys2 yv2 w2 := by
        rw [a5, b4]
        exact (ql_e w (fun j hj => ⟨(hwt.1 j hj).1, (hwt.1 j hj).2.1⟩)).symm
      obtain ⟨c1, c2⟩ := ql_a (b := wv1) w1 hX
      obtain ⟨d1, d2⟩ := ql_a (b := yv2) w2 b3
      have hww : w2 = w1 := by rw [← c1, hq, d1]
      subst hww
      have hk2 : wt_k w2 ws1 wv1 ys2 yv2 := by
        refine ⟨fun i hi => ?_, a3.2⟩
        have e1 := c2 i hi
        rw [hq, d2 i hi] at e1
        have e2 := Option.some.inj e1
        exact ⟨congrArg Prod.fst e2, congrArg Prod.snd e2, (a3.1 i hi).2.2⟩
      refine ⟨nI (cn_b (dr_b bo v 20) 0 0 64) - nI (cn_b bo 0 0 64), _, _, rl_m (dn := dn) (bm := bm) (wo := wo) (vt := upd vt v (vp_nar .boolean 0)) (yz := yz) (⟨by omega, hd, hs, hb, hc, hca, hby, hdk, dr_k hbo 20, a2, hk2, hnt⟩ : rl_i w2 d s b c ca ba ds mk (dr_b bo v 20) us1 ws1 wv1 ys2 yv2 nt), fun post hp => br_t hdn (vX _ (br_f (by decide) (cb_r (lo := 0) (hi := 0) hus (by decide) (by decide) ⟨21, a6 post _ (br_t (by decide) ⟨hin, ?_⟩)⟩))), fun post hp => br_t hdn (vY _ (br_f (by decide) (fr_r ⟨hin, ?_⟩)))⟩
      · rw [nI_clamp (by omega)]
        exact nm_e (cb_r (lo := 0) (hi := 0) a2 (by decide) (by decide) hp)
      · rw [nI_clamp (by omega)]
        refine nm_e ⟨21, yg_b hv ?_ 20 0 (by omega)⟩
        refine br_t (by decide) (nm_r (Int32.sub_eq_add_neg (nI w) 1) ⟨w + 1, b5 post _ (br_t rb_n1lt (fr_r hp))⟩)
  · exact ⟨-4, _, _, rl_m H, fun post hp => br_f hdn hp, fun post hp => br_f hdn hp⟩
end
