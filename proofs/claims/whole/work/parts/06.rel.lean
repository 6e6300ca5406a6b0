section
variable {wc dl ns nb ca dn sn bm : Int32} {ba ds mk wo vt bo us ws wv nt ys yv yz : Nat → Int32}
/-! what the relation holds -/
def dk_k (ds mk : Nat → Int32) : Prop := ∀ j : Nat, j < 6 → ∃ m : Nat, m ≤ 16 ∧ mk j = nI m ∧ (ds j = 2 → m < 16)
def bo_k (bo : Nat → Int32) : Prop := ∀ j : Nat, j < 120 → bo j = -1 ∨ ∃ b : Nat, b < 64 ∧ bo j = nI b
def ct_n (bo : Nat → Int32) (x : Int32) : Nat → Nat
  | 0 => 0
  | n + 1 => ct_n bo x n + if bo n = x then 1 else 0
def us_k (us bo : Nat → Int32) : Prop := ∀ b : Nat, b < 64 → us b = nI (ct_n bo (nI b) 120)
def wt_k (w : Nat) (ws wv ys yv : Nat → Int32) : Prop := (∀ i : Nat, i < w → ys i = ws i ∧ yv i = wv i ∧ (∃ l : Nat, l < 120 ∧ ws i = nI l) ∧ is_b (wv i)) ∧ (∀ i j : Nat, i < j → j < w → ws i ≠ ws j)
def nt_k (nt : Nat → Int32) : Prop := ∀ i : Nat, i < 3 → is_b (nt i)
def ca_k (ca : Int32) : Prop := ca = -1 ∨ ∃ c : Nat, c < 3 ∧ ca = nI c
def rl_i (w d s b c : Nat) (ca : Int32) (ba ds mk bo us ws wv ys yv nt : Nat → Int32) : Prop :=
  w ≤ d ∧ d ≤ 6 ∧ s < 120 ∧ b < 64 ∧ c < 16 ∧ ca_k ca ∧ by_k ba ∧ dk_k ds mk ∧ bo_k bo ∧ us_k us bo ∧ wt_k w ws wv ys yv ∧ nt_k nt
def rl_s (u : SX) (v : SY) : Prop := ∃ (w d s b c : Nat) (ca dn bm : Int32) (ba ds mk wo vt bo us ws wv nt ys yv yz : Nat → Int32), u = (nI w, nI d, nI s, nI b, ca, dn, nI c, bm, ba, ds, mk, wo, vt, bo, us, ws, wv, nt) ∧ v = (nI d, ca, nI c, bm, dn, nI w, nI b, nI s, ba, ds, mk, vt, bo, ys, yv, nt, yz) ∧ rl_i w d s b c ca ba ds mk bo us ws wv ys yv nt
/-! how many lblocks are on a block -/
theorem ct_le (x : Int32) : ∀ n : Nat, ct_n bo x n ≤ n := by
  intro n
  induction n with
  | zero => exact Nat.le_refl 0
  | succ n ih =>
    show ct_n bo x n + (if _ then 1 else 0) ≤ n + 1
    split <;> omega
theorem ct_u0 {l : Nat} {x y : Int32} : ∀ n : Nat, n ≤ l → ct_n (upd bo l x) y n = ct_n bo y n := by
  intro n
  induction n with
  | zero => intro _; rfl
  | succ n ih =>
    intro h
    show ct_n (upd bo l x) y n + (if (upd bo l x) n = y then 1 else 0) = ct_n bo y n + (if bo n = y then 1 else 0)
    rw [ih (by omega), pk_un (by omega)]
theorem ct_u {l : Nat} {x y : Int32} : ∀ n : Nat, l < n → ct_n (upd bo l x) y n + (if bo l = y then 1 else 0) = ct_n bo y n + (if x = y then 1 else 0) := by
  intro n
  induction n with
  | zero => intro h; omega
  | succ n ih =>
    intro h
    show ct_n (upd bo l x) y n + (if (upd bo l x) n = y then 1 else 0) + (if bo l = y then 1 else 0) = ct_n bo y n + (if bo n = y then 1 else 0) + (if x = y then 1 else 0)
    by_cases c : l = n
    · rw [← c, pk_us, ct_u0 l (Nat.le_refl l)]
      omega
    · rw [pk_un (by omega)]
      have := ih (by omega)
      omega
theorem ct_1 {l : Nat} {y : Int32} (h : bo l = y) : ∀ n : Nat, l < n → 1 ≤ ct_n bo y n := by
  intro n
  induction n with
  | zero => intro h; omega
  | succ n ih =>
    intro hn
    show 1 ≤ ct_n bo y n + (if bo n = y then 1 else 0)
    by_cases c : l = n
    · rw [← c, if_pos h]; omega
    · have := ih (by omega)
      omega
theorem yu_l {post : Int32 → Prop} {x : Int32} (h : post (nI (ct_n bo x 120))) : ∀ e i : Nat, i + e = 120 → wY_users_4 post x dl ca sn bm dn wc nb ns ba ds mk vt bo ys yv nt yz (e + 1) (nI (ct_n bo x i)) (nI i) := by
  intro e
  induction e with
  | zero =>
    intro i hi
    rw [show i = 120 by omega]
    exact br_t (by decide) h
  | succ e ih =>
    intro i hi
    have ih := ih (i + 1) (by omega)
    refine br_f (nI_ge (b := 120) (by omega) (by decide)) ⟨vp_in_nI (by omega) (by omega), ?_⟩
    rw [nI_clamp (by omega)]
    have e1 : ct_n bo x (i + 1) = ct_n bo x i + if bo i = x then 1 else 0 := rfl
    rw [e1] at ih
    refine br_c (fun z => nm_r (nI_1 _) (nm_r (nI_1 i) ?_)) (fun z => nm_r (nI_1 i) ?_)
    · rw [if_pos z] at ih; exact ih
    · rw [if_neg z] at ih; exact ih
theorem yu_r {post : Int32 → Prop} {x : Int32} (h : post (nI (ct_n bo x 120))) : wpY_users post (dl, ca, sn, bm, dn, wc, nb, ns, ba, ds, mk, vt, bo, ys, yv, nt, yz) x := ⟨121, yu_l h 120 0 (by omega)⟩
/-! an lblock comes to be on a block -/
def pu_d (us : Nat → Int32) (o : Int32) : Nat → Int32 := if o < 0 then us else upd us o.toNatClampNeg (us o.toNatClampNeg - 1)
def pu_i (us : Nat → Int32) (x : Int32) : Nat → Int32 := if x < 0 then us else upd us x.toNatClampNeg (us x.toNatClampNeg + 1)
def bk_k (x : Int32) : Prop := x = -1 ∨ ∃ b : Nat, b < 64 ∧ x = nI b
theorem bk_in {x : Int32} (h : bk_k x) (hn : ¬ x < 0) : vp_in x 64 := by
  rcases h with rfl | ⟨b, hb, rfl⟩
  · exact absurd rb_n1lt hn
  · exact vp_in_nI hb (by omega)
theorem xo_u {post : SX → Prop} {l : Nat} {x : Int32} (hl : l < 120) (hx : bk_k x) (h : post (wc, dl, ns, nb, ca, dn, sn, bm, ba, ds, mk, wo, vt, upd bo l x, pu_i us x, ws, wv, nt)) : wX_putOn_21 post (nI l) x wc dl ns nb ca dn sn bm ba ds mk wo vt bo us ws wv nt := by
  unfold pu_i at h
  refine br_c (fun z => ⟨vp_in_nI hl (by omega), ?_⟩) (fun z => ⟨bk_in hx z, bk_in hx z, nm_e ⟨vp_in_nI hl (by omega), ?_⟩⟩)
  · rw [nI_clamp (by omega)]
    rw [if_pos z] at h
    exact nm_e h
  · rw [nI_clamp (by omega)]
    rw [if_neg z] at h
    exact nm_e h
theorem xo_p {post : SX → Prop} {l : Nat} {x : Int32} (hl : l < 120) (hx : bk_k x) (hb : bo_k bo) (h : post (wc, dl, ns, nb, ca, dn, sn, bm, ba, ds, mk, wo, vt, upd bo l x, pu_i (pu_d us (bo l)) x, ws, wv, nt)) : wpX_putOn post (wc, dl, ns, nb, ca, dn, sn, bm, ba, ds, mk, wo, vt, bo, us, ws, wv, nt) (nI l) x := by
  refine ⟨vp_in_nI hl (by omega), ?_⟩
  rw [nI_clamp (by omega)]
  unfold pu_d at h
  refine nm_e (br_c (fun z => xo_u hl hx ?_) (fun z => ⟨bk_in (hb l hl) z, bk_in (hb l hl) z, nm_e (xo_u hl hx ?_)⟩))
  · rw [if_pos z] at h; exact h
  · rw [if_neg z] at h; exact h
theorem rb_p1 {a : Nat} (h : 1 ≤ a) : nI a - 1 = nI (a - 1) := by
  obtain ⟨c, rfl⟩ : ∃ c, a = c + 1 := ⟨a - 1, by omega⟩
  exact nI_pred c
theorem nb_e {a b : Nat} (ha : a < 64) (hb : b < 64) : nI a = nI b ↔ a = b := nI_eq (by omega) (by omega)
theorem nb_n {b : Nat} (hb : b < 64) : ¬ (-1 : Int32) = nI b := fun e => rb_ne1 (a := b) (by omega) e.symm
theorem us_p {l : Nat} {x : Int32} (hl : l < 120) (hx : bk_k x) (hb : bo_k bo) (hu : us_k us bo) : us_k (pu_i (pu_d us (bo l)) x) (upd bo l x) := by
  intro b hb6
  have hc := ct_u (bo := bo) (l := l) (x := x) (y := nI b) 120 hl
  have h1 := hu b hb6
  have dec : pu_d us (bo l) b = nI (ct_n bo (nI b) 120 - if bo l = nI b then 1 else 0) := by
    unfold pu_d
    rcases hb l hl with e | ⟨o, ho, e⟩
    · rw [e, if_pos rb_n1lt, if_neg (nb_n hb6), h1]; rfl
    · rw [e, if_neg (nI_pos (by omega)), nI_clamp (by omega)]
      by_cases c : o = b
      · rw [c, pk_us, if_pos rfl, h1, rb_p1 (ct_1 (l := l) (by rw [e, c]) 120 hl)]
      · rw [pk_un (by omega), if_neg (fun z => c ((nb_e ho hb6).mp z)), h1]; rfl
  have hle : (if bo l = nI b then 1 else 0) ≤ ct_n bo (nI b) 120 := by
    by_cases c : bo l = nI b
    · rw [if_pos c]; exact ct_1 c 120 hl
    · rw [if_neg c]; omega
  unfold pu_i
  rcases hx with rfl | ⟨n, hn, rfl⟩
  · rw [if_pos rb_n1lt, dec]
    rw [if_neg (nb_n hb6)] at hc
    congr 1
    omega
  · rw [if_neg (nI_pos (by omega)), nI_clamp (by omega)]
    by_cases c : n = b
    · rw [c, pk_us, dec, nI_1]
      rw [if_pos (congrArg nI c : nI n = nI b)] at hc
      rw [c] at hc
      congr 1
      omega
    · rw [pk_un (by omega), dec]
      rw [if_neg (fun z => c ((nb_e hn hb6).mp z))] at hc
      congr 1
      omega
theorem bo_p {l : Nat} {x : Int32} (hx : bk_k x) (hb : bo_k bo) : bo_k (upd bo l x) := by
  intro j hj
  unfold upd
  by_cases c : j = l
  · rw [if_pos c]; exact hx
  · rw [if_neg c]; exact hb j hj
/-! the block that a writing goes to -/
theorem bw_l (hu : us_k us bo) {l : Int32} : ∀ e i : Nat, i + e = 64 → ∃ b : Nat, b ≤ 64 ∧ (∀ post : Int32 → Prop, post (if b = 64 then -1 else nI b) → wX_blockToWrite_25 post wc dl ns nb ca dn sn bm ba ds mk wo vt bo us ws wv nt (e + 1) (nI i)) ∧ (∀ (post : Int32 → SY → Prop) (v : Int32), wY_writeNow_42 post l v (nI b) dl ca sn bm dn wc nb ns ba ds mk vt bo ys yv nt yz → wY_writeNow_22 post l v dl ca sn bm dn wc nb ns ba ds mk vt bo ys yv nt yz (e + 1) (nI i)) := by
  intro e
  induction e with
  | zero =>
    intro i hi
    rw [show i = 64 by omega]
    exact ⟨64, by decide, fun post h => br_t (by decide) h, fun post v h => br_t (by decide) h⟩
  | succ e ih =>
    intro i hi
    have h1 := hu i (by omega)
    have hle := ct_le (bo := bo) (nI i) 120
    have h64 : ¬ (64 : Int32) ≤ nI i := nI_ge (b := 64) (by omega) (by decide)
    by_cases z : ct_n bo (nI i) 120 = 0
    · refine ⟨i, by omega, fun post h => br_f h64 ⟨vp_in_nI (by omega) (by omega), ?_⟩, fun post v h => br_f h64 (yu_r (br_t ?_ h))⟩
      · rw [if_neg (by omega)] at h
        rw [nI_clamp (by omega), h1, z]
        exact br_t rfl h
      · rw [z]; decide
    · obtain ⟨b, hb, hX, hY⟩ := ih (i + 1) (by omega)
      refine ⟨b, hb, fun post h => br_f h64 ⟨vp_in_nI (by omega) (by omega), ?_⟩, fun post v h => br_f h64 (yu_r (br_f (nI_nle (by omega) (by omega)) (nm_r (nI_1 i) (hY post v h))))⟩
      rw [nI_clamp (by omega), h1]
      exact br_f (nI_ne0 (by omega) (by omega)) (nm_r (nI_1 i) (hX post h))
theorem bw_r {l : Nat} (hl : l < 120) (hb : bo_k bo) (hu : us_k us bo) : ∃ b : Nat, b ≤ 64 ∧ (∀ post : Int32 → Prop, post (if b = 64 then -1 else nI b) → wpX_blockToWrite post (wc, dl, ns, nb, ca, dn, sn, bm, ba, ds, mk, wo, vt, bo, us, ws, wv, nt) (nI l)) ∧ (∀ (post : Int32 → SY → Prop) (v : Int32), wY_writeNow_42 post (nI l) v (nI b) dl ca sn bm dn wc nb ns ba ds mk vt bo ys yv nt yz → wpY_writeNow post (dl, ca, sn, bm, dn, wc, nb, ns, ba, ds, mk, vt, bo, ys, yv, nt, yz) (nI l) v) := by
  obtain ⟨b, hb64, hX, hY⟩ := bw_l (l := nI l) (wc := wc) (dl := dl) (ns := ns) (nb := nb) (ca := ca) (dn := dn) (sn := sn) (bm := bm) (ba := ba) (ds := ds) (mk := mk) (wo := wo) (vt := vt) (ws := ws) (wv := wv) (nt := nt) (ys := ys) (yv := yv) (yz := yz) hu 64 0 (by omega)
  rcases hb l hl with e | ⟨o, ho, e⟩
  · refine ⟨b, hb64, fun post h => ⟨vp_in_nI hl (by omega), ?_⟩, fun post v h => ⟨vp_in_nI hl (by omega), ?_⟩⟩
    · rw [nI_clamp (by omega), e]
      exact nm_e (br_t rb_n1lt ⟨65, hX post h⟩)
    · rw [nI_clamp (by omega), e]
      exact nm_e (br_t rb_n1lt ⟨65, hY post v h⟩)
  · have h1 := hu o ho
    have hle := ct_le (bo := bo) (nI o) 120
    have hge := ct_1 e 120 hl
    by_cases c : ct_n bo (nI o) 120 = 1
    · refine ⟨o, by omega, fun post h => ⟨vp_in_nI hl (by omega), ?_⟩, fun post v h => ⟨vp_in_nI hl (by omega), ?_⟩⟩
      · rw [nI_clamp (by omega), e]
        refine nm_e (br_f (nI_pos (by omega)) ⟨vp_in_nI ho (by omega), ?_⟩)
        rw [nI_clamp (by omega), h1, c]
        rw [if_neg (by omega)] at h
        exact br_t rfl h
      · rw [nI_clamp (by omega), e]
        refine nm_e (br_f (nI_pos (by omega)) (yu_r ?_))
        rw [c]
        exact br_t (by decide) h
    · refine ⟨b, hb64, fun post h => ⟨vp_in_nI hl (by omega), ?_⟩, fun post v h => ⟨vp_in_nI hl (by omega), ?_⟩⟩
      · rw [nI_clamp (by omega), e]
        refine nm_e (br_f (nI_pos (by omega)) ⟨vp_in_nI ho (by omega), ?_⟩)
        rw [nI_clamp (by omega), h1]
        exact pk_eq (ct_n bo (nI o) 120) 1 (fun z => absurd z c) (fun _ => ⟨65, hX post h⟩)
      · rw [nI_clamp (by omega), e]
        exact nm_e (br_f (nI_pos (by omega)) (yu_r (pk_le (ct_n bo (nI o) 120) 1 (fun z => absurd z (by omega)) (fun _ => ⟨65, hY post v h⟩))))
end
