section
variable {wc dl ns nb ca dn sn bm : Int32} {ba ds mk wo vt bo us ws wv nt ys yv yz : Nat → Int32}
/-! the worths of a stripe -/
def by_k (ba : Nat → Int32) : Prop := ∀ j : Nat, j < 96 → is_b (ba j)
def bs_v (ba ds mk : Nat → Int32) (s j : Nat) : Int32 := if th_v ds mk ((s + j) % 6) s = 0 then 0 else ba ((s + j) % 6 * 16 + s)
theorem bs_b {s : Nat} (hs : s < 16) (hb : by_k ba) (j : Nat) : is_b (bs_v ba ds mk s j) := by
  unfold bs_v
  split
  · exact is_b0
  · exact hb _ (by omega)
def gx_s (t : Int32) (k : Nat) (p : Int32 × Int32) : Int32 × Int32 := if t = 0 ∧ k < 4 then (nI k, p.1) else p
def gy_s (t : Int32) (k : Nat) (p : Int32 × Int32) : Int32 × Int32 := if t = 0 then (if 0 ≤ p.1 then (p.1, nI k) else (nI k, p.2)) else p
def gx_a (t : Nat → Int32) : Int32 × Int32 := gx_s (t 0) 0 (gx_s (t 1) 1 (gx_s (t 2) 2 (gx_s (t 3) 3 (gx_s (t 4) 4 (gx_s (t 5) 5 (-1, -1))))))
def gy_a (t : Nat → Int32) : Int32 × Int32 := gy_s (t 3) 3 (gy_s (t 2) 2 (gy_s (t 1) 1 (gy_s (t 0) 0 (-1, -1))))
theorem gp_0 : (0 : Int32) ≤ nI 0 := by decide
theorem gp_1 : (0 : Int32) ≤ nI 1 := by decide
theorem gp_2 : (0 : Int32) ≤ nI 2 := by decide
theorem gp_3 : (0 : Int32) ≤ nI 3 := by decide
theorem gx_y {t : Int32} {k : Nat} {p : Int32 × Int32} (h : t = 0) (hk : k < 4) : gx_s t k p = (nI k, p.1) := if_pos ⟨h, hk⟩
theorem gx_n {t : Int32} {k : Nat} {p : Int32 × Int32} (h : ¬ t = 0) : gx_s t k p = p := if_neg (fun z => h z.1)
theorem gx_m {t : Int32} {k : Nat} {p : Int32 × Int32} (h : ¬ k < 4) : gx_s t k p = p := if_neg (fun z => h z.2)
theorem gy_n {t : Int32} {k : Nat} {p : Int32 × Int32} (h : ¬ t = 0) : gy_s t k p = p := if_neg h
theorem gy_1 {t : Int32} {k : Nat} {b : Int32} (h : t = 0) : gy_s t k (-1, b) = (nI k, b) := by
  unfold gy_s
  rw [if_pos h, if_neg rb_n1le]
theorem gy_2 {t : Int32} {k g : Nat} {b : Int32} (h : t = 0) (hg : g < 4) : gy_s t k (nI g, b) = (nI g, nI k) := by
  unfold gy_s
  rw [if_pos h, if_pos (nI_pos' (by omega))]
def gc_o (t : Nat → Int32) : Prop := (gx_a t = (-1, -1) ∧ gy_a t = (-1, -1)) ∨ (∃ g : Nat, g < 4 ∧ t g = 0 ∧ gx_a t = (nI g, -1) ∧ gy_a t = (nI g, -1)) ∨ (∃ g n : Nat, g < n ∧ n < 4 ∧ t g = 0 ∧ t n = 0 ∧ gx_a t = (nI g, nI n) ∧ gy_a t = (nI g, nI n))
theorem gc_r (t : Nat → Int32) (h : (if t 0 = 0 then 1 else 0) + (if t 1 = 0 then 1 else 0) + (if t 2 = 0 then 1 else 0) + (if t 3 = 0 then 1 else 0) ≤ 2) : gc_o t := by
  unfold gc_o gx_a gy_a
  rw [gx_m (t := t 5) (by decide), gx_m (t := t 4) (by decide)]
  by_cases a0 : t 0 = 0
  · by_cases a1 : t 1 = 0
    · by_cases a2 : t 2 = 0
      · by_cases a3 : t 3 = 0
        · exfalso
          simp only [a0, a1, a2, a3, if_true, if_false] at h
          omega
        · exfalso
          simp only [a0, a1, a2, a3, if_true, if_false] at h
          omega
      · by_cases a3 : t 3 = 0
        · exfalso
          simp only [a0, a1, a2, a3, if_true, if_false] at h
          omega
        · rw [gx_n a3, gx_n a2, gx_y a1 (by decide), gx_y a0 (by decide), gy_1 a0, gy_2 a1 (by decide), gy_n a2, gy_n a3]
          exact Or.inr (Or.inr ⟨0, 1, by decide, by decide, a0, a1, rfl, rfl⟩)
    · by_cases a2 : t 2 = 0
      · by_cases a3 : t 3 = 0
        · exfalso
          simp only [a0, a1, a2, a3, if_true, if_false] at h
          omega
        · rw [gx_n a3, gx_y a2 (by decide), gx_n a1, gx_y a0 (by decide), gy_1 a0, gy_n a1, gy_2 a2 (by decide), gy_n a3]
          exact Or.inr (Or.inr ⟨0, 2, by decide, by decide, a0, a2, rfl, rfl⟩)
      · by_cases a3 : t 3 = 0
        · rw [gx_y a3 (by decide), gx_n a2, gx_n a1, gx_y a0 (by decide), gy_1 a0, gy_n a1, gy_n a2, gy_2 a3 (by decide)]
          exact Or.inr (Or.inr ⟨0, 3, by decide, by decide, a0, a3, rfl, rfl⟩)
        · rw [gx_n a3, gx_n a2, gx_n a1, gx_y a0 (by decide), gy_1 a0, gy_n a1, gy_n a2, gy_n a3]
          exact Or.inr (Or.inl ⟨0, by decide, a0, rfl, rfl⟩)
  · by_cases a1 : t 1 = 0
    · by_cases a2 : t 2 = 0
      · by_cases a3 : t 3 = 0
        · exfalso
          simp only [a0, a1, a2, a3, if_true, if_false] at h
          omega
        · rw [gx_n a3, gx_y a2 (by decide), gx_y a1 (by decide), gx_n a0, gy_n a0, gy_1 a1, gy_2 a2 (by decide), gy_n a3]
          exact Or.inr (Or.inr ⟨1, 2, by decide, by decide, a1, a2, rfl, rfl⟩)
      · by_cases a3 : t 3 = 0
        · rw [gx_y a3 (by decide), gx_n a2, gx_y a1 (by decide), gx_n a0, gy_n a0, gy_1 a1, gy_n a2, gy_2 a3 (by decide)]
          exact Or.inr (Or.inr ⟨1, 3, by decide, by decide, a1, a3, rfl, rfl⟩)
        · rw [gx_n a3, gx_n a2, gx_y a1 (by decide), gx_n a0, gy_n a0, gy_1 a1, gy_n a2, gy_n a3]
          exact Or.inr (Or.inl ⟨1, by decide, a1, rfl, rfl⟩)
    · by_cases a2 : t 2 = 0
      · by_cases a3 : t 3 = 0
        · rw [gx_y a3 (by decide), gx_y a2 (by decide), gx_n a1, gx_n a0, gy_n a0, gy_n a1, gy_1 a2, gy_2 a3 (by decide)]
          exact Or.inr (Or.inr ⟨2, 3, by decide, by decide, a2, a3, rfl, rfl⟩)
        · rw [gx_n a3, gx_y a2 (by decide), gx_n a1, gx_n a0, gy_n a0, gy_n a1, gy_1 a2, gy_n a3]
          exact Or.inr (Or.inl ⟨2, by decide, a2, rfl, rfl⟩)
      · by_cases a3 : t 3 = 0
        · rw [gx_y a3 (by decide), gx_n a2, gx_n a1, gx_n a0, gy_n a0, gy_n a1, gy_n a2, gy_1 a3]
          exact Or.inr (Or.inl ⟨3, by decide, a3, rfl, rfl⟩)
        · rw [gx_n a3, gx_n a2, gx_n a1, gx_n a0, gy_n a0, gy_n a1, gy_n a2, gy_n a3]
          exact Or.inl ⟨rfl, rfl⟩

theorem xw_s {post : SX → Prop} {s k n : Nat} {p : Int32 × Int32} (hs : s < 16) (hk : k < 6) (h : wX_findWorths_7 post (nI s) wc dl ns nb ca dn sn bm n (gx_s (th_v ds mk ((s + k) % 6) s) k p).1 (gx_s (th_v ds mk ((s + k) % 6) s) k p).2 (nI k + (-1)) ba ds mk (upd wo k (bs_v ba ds mk s k)) vt bo us ws wv nt) : wX_findWorths_7 post (nI s) wc dl ns nb ca dn sn bm (n + 1) p.1 p.2 (nI k) ba ds mk wo vt bo us ws wv nt := by
  refine br_f (nI_pos (by omega)) ⟨rb_6, nm_r (rb_dk (by omega) (by omega)) (xt_r (Nat.mod_lt _ (by decide)) hs (br_c (fun z => ⟨vp_in_nI hk (by omega), ?_⟩) (fun z => ⟨pk_in ((s + k) % 6 * 16 + s) 96 (by omega) (rb_cell _ _), vp_in_nI hk (by omega), ?_⟩)))⟩
  · rw [nI_clamp (by omega)]
    rw [bs_v, if_pos z] at h
    refine nm_e (br_t z (pk_le 4 k (fun c => nm_e ?_) (fun c => nm_e ?_)))
    · rw [gx_m (by omega)] at h; exact h
    · rw [gx_y z (by omega)] at h; exact h
  · rw [nI_clamp (by omega), rb_cell, nI_clamp (by omega)]
    rw [bs_v, if_neg z, gx_n z] at h
    exact nm_e (br_f z (nm_e h))
theorem yw_s {post : SY → Prop} {s k n : Nat} {a b : Int32} (hs : s < 16) (hk : k < 6) (h : wY_weigh_7 post (nI s) a b dl ca sn bm dn wc nb ns n (nI (k + 1)) ba ds mk vt bo ys yv nt (upd yz k (bs_v ba ds mk s k))) : wY_weigh_7 post (nI s) a b dl ca sn bm dn wc nb ns (n + 1) (nI k) ba ds mk vt bo ys yv nt yz := by
  refine br_f (nI_ge (b := 6) hk (by decide)) (yh_r hs hk (br_c (fun z => ⟨vp_in_nI hk (by omega), ?_⟩) (fun z => yc_r hs hk ⟨vp_in_nI (by omega) (by omega), vp_in_nI hk (by omega), ?_⟩)))
  · rw [nI_clamp (by omega)]
    rw [bs_v, if_pos z] at h
    exact nm_e (nm_r (nI_1 k) h)
  · rw [nI_clamp (by omega), nI_clamp (by omega)]
    rw [bs_v, if_neg z] at h
    exact nm_e (nm_r (nI_1 k) h)
theorem y5_s {post : SY → Prop} {s k n : Nat} {p : Int32 × Int32} (hs : s < 16) (hk : k < 4) (h : wY_weigh_55 post (nI s) dl ca sn bm dn wc nb ns ba ds mk vt bo ys yv nt yz n (gy_s (th_v ds mk ((s + k) % 6) s) k p).1 (gy_s (th_v ds mk ((s + k) % 6) s) k p).2 (nI (k + 1))) : wY_weigh_55 post (nI s) dl ca sn bm dn wc nb ns ba ds mk vt bo ys yv nt yz (n + 1) p.1 p.2 (nI k) := by
  refine br_f (nI_ge (b := 4) hk (by decide)) (yh_r hs (by omega) (br_c (fun z => br_c (fun c => nm_r (nI_1 k) ?_) (fun c => nm_r (nI_1 k) ?_)) (fun z => nm_r (nI_1 k) ?_)))
  · rw [gy_s, if_pos z, if_pos c] at h; exact h
  · rw [gy_s, if_pos z, if_neg c] at h; exact h
  · rw [gy_n z] at h; exact h
theorem xw_g {post : SX → Prop} {tQ : Int32} (h : post (wc, dl, ns, nb, ca, dn, sn, bm, ba, ds, mk, fn_2 tQ wo, vt, bo, us, ws, wv, nt)) : wX_findWorths_195 post tQ wc dl ns nb ca dn sn bm ba ds mk wo vt bo us ws wv nt := by
  unfold fn_2 at h
  refine br_c (fun z => xs_r (nm_e ?_)) (fun z => ?_)
  · rw [if_pos z] at h; exact h
  · rw [if_neg z] at h; exact h
theorem xw_f {post : SX → Prop} {tP tQ : Int32} (h : post (wc, dl, ns, nb, ca, dn, sn, bm, ba, ds, mk, fn_2 tQ (fn_1 tP wo), vt, bo, us, ws, wv, nt)) : wX_findWorths_180 post tP tQ wc dl ns nb ca dn sn bm ba ds mk wo vt bo us ws wv nt := by
  unfold fn_1 at h
  refine br_c (fun z => xd_r (nm_e (xw_g ?_))) (fun z => xw_g ?_)
  · rw [if_pos z] at h; exact h
  · rw [if_neg z] at h; exact h
theorem yw_g {post : SY → Prop} {tQ : Int32} (h : post (dl, ca, sn, bm, dn, wc, nb, ns, ba, ds, mk, vt, bo, ys, yv, nt, fn_2 tQ yz)) : wY_weigh_262 post tQ dl ca sn bm dn wc nb ns ba ds mk vt bo ys yv nt yz := by
  unfold fn_2 at h
  refine br_c (fun z => ys_r (nm_e ?_)) (fun z => ?_)
  · rw [if_pos z] at h; exact h
  · rw [if_neg z] at h; exact h
theorem yw_f {post : SY → Prop} {tP tQ : Int32} (h : post (dl, ca, sn, bm, dn, wc, nb, ns, ba, ds, mk, vt, bo, ys, yv, nt, fn_2 tQ (fn_1 tP yz))) : wY_weigh_247 post tP tQ dl ca sn bm dn wc nb ns ba ds mk vt bo ys yv nt yz := by
  unfold fn_1 at h
  refine br_c (fun z => yd_r (nm_e (yw_g ?_))) (fun z => yw_g ?_)
  · rw [if_pos z] at h; exact h
  · rw [if_neg z] at h; exact h
/-! the component's searches -/
theorem xq_l {post : SX → Prop} {g x0 : Nat} {q : Int32} (hg : g < 6) (hx : x0 < 256) (hu : ∀ y : Nat, y < 256 → gf_d g (nI y) = q → y = x0) (hq : gf_d g (nI x0) = q) (hp : post (wc, dl, ns, nb, ca, dn, sn, bm, ba, ds, mk, upd wo g (nI x0), vt, bo, us, ws, wv, nt)) : ∀ (e i : Nat), i + e = 256 → wX_fillByQ_2 post (nI g) q wc dl ns nb ca dn sn bm (e + 1) (nI i) ba ds mk (if x0 < i then upd wo g (nI x0) else wo) vt bo us ws wv nt := by
  intro e
  induction e with
  | zero =>
    intro i hi
    rw [if_pos (by omega)]
    exact br_t (nI_le (a := 256) (by omega) (by omega)) hp
  | succ e ih =>
    intro i hi
    have ih := ih (i + 1) (by omega)
    refine br_f (nI_ge (b := 256) (by omega) (by decide)) (xp_r (by omega) (br_c (fun z => ⟨vp_in_nI hg (by omega), nm_e (nm_r (nI_1 i) ?_)⟩) (fun z => nm_r (nI_1 i) ?_)))
    · have e1 := hu i (by omega) z
      rw [if_pos (by omega)] at ih
      rw [if_neg (by omega), nI_clamp (by omega), e1]
      rw [e1] at ih
      exact ih
    · have e1 : i ≠ x0 := fun y => z (by rw [y]; exact hq)
      by_cases c : x0 < i
      · rw [if_pos (by omega)] at ih; rw [if_pos c]; exact ih
      · rw [if_neg (by omega)] at ih; rw [if_neg c]; exact ih
theorem xq_r {post : SX → Prop} {g x0 : Nat} {q : Int32} (hg : g < 6) (hx : x0 < 256) (hu : ∀ y : Nat, y < 256 → gf_d g (nI y) = q → y = x0) (hq : gf_d g (nI x0) = q) (hp : post (wc, dl, ns, nb, ca, dn, sn, bm, ba, ds, mk, upd wo g (nI x0), vt, bo, us, ws, wv, nt)) : wpX_fillByQ post (wc, dl, ns, nb, ca, dn, sn, bm, ba, ds, mk, wo, vt, bo, us, ws, wv, nt) (nI g) q := by
  have h := xq_l hg hx hu hq hp 256 0 (by omega)
  rw [if_neg (by omega)] at h
  exact ⟨257, h⟩
theorem x2_l {post : SX → Prop} {g k x0 : Nat} {p q : Int32} (hg : g < 6) (hk : k < 6) (hx : x0 < 256) (hu : ∀ y : Nat, y < 256 → gf_d g (nI y) ^^^ gf_d k (p ^^^ nI y) = q → y = x0) (hq : gf_d g (nI x0) ^^^ gf_d k (p ^^^ nI x0) = q) (hp : post (wc, dl, ns, nb, ca, dn, sn, bm, ba, ds, mk, upd (upd wo g (nI x0)) k (p ^^^ nI x0), vt, bo, us, ws, wv, nt)) : ∀ (e i : Nat), i + e = 256 → wX_fillTwo_3 post (nI g) (nI k) p q wc dl ns nb ca dn sn bm (e + 1) (nI i) ba ds mk (if x0 < i then upd (upd wo g (nI x0)) k (p ^^^ nI x0) else wo) vt bo us ws wv nt := by
  intro e
  induction e with
  | zero =>
    intro i hi
    rw [if_pos (by omega)]
    exact br_t (nI_le (a := 256) (by omega) (by omega)) hp
  | succ e ih =>
    intro i hi
    have ih := ih (i + 1) (by omega)
    refine br_f (nI_ge (b := 256) (by omega) (by decide)) (xp_r (by omega) (xp_r (by omega) (nm_e (br_c (fun z => ⟨vp_in_nI hg (by omega), nm_e ⟨vp_in_nI hk (by omega), nm_e (nm_r (nI_1 i) ?_)⟩⟩) (fun z => nm_r (nI_1 i) ?_)))))
    · have e1 := hu i (by omega) z
      rw [if_pos (by omega)] at ih
      rw [if_neg (by omega), nI_clamp (by omega), nI_clamp (by omega), e1]
      rw [e1] at ih
      exact ih
    · have e1 : i ≠ x0 := fun y => z (by rw [y]; exact hq)
      by_cases c : x0 < i
      · rw [if_pos (by omega)] at ih; rw [if_pos c]; exact ih
      · rw [if_neg (by omega)] at ih; rw [if_neg c]; exact ih
theorem x2_r {post : SX → Prop} {g k x0 : Nat} {p q : Int32} (hg : g < 6) (hk : k < 6) (hx : x0 < 256) (hu : ∀ y : Nat, y < 256 → gf_d g (nI y) ^^^ gf_d k (p ^^^ nI y) = q → y = x0) (hq : gf_d g (nI x0) ^^^ gf_d k (p ^^^ nI x0) = q) (hp : post (wc, dl, ns, nb, ca, dn, sn, bm, ba, ds, mk, upd (upd wo g (nI x0)) k (p ^^^ nI x0), vt, bo, us, ws, wv, nt)) : wpX_fillTwo post (wc, dl, ns, nb, ca, dn, sn, bm, ba, ds, mk, wo, vt, bo, us, ws, wv, nt) (nI g) (nI k) p q := by
  have h := x2_l hg hk hx hu hq hp 256 0 (by omega)
  rw [if_neg (by omega)] at h
  exact ⟨257, h⟩
/-! the reference's search -/
theorem y1_q {post : SY → Prop} {g x0 : Nat} {tP tQ m : Int32} (hm : m < 0) (hg : g < 4) (hx : x0 < 256) (hP : tP = 0) (hc : sm_P (upd yz g (nI x0)) = yz 5) (hu : ∀ y : Nat, y < x0 → ¬ sm_P (upd yz g (nI y)) = yz 5) (hp : post (dl, ca, sn, bm, dn, wc, nb, ns, ba, ds, mk, vt, bo, ys, yv, nt, fn_2 tQ (fn_1 tP (upd yz g (nI x0))))) : ∀ (e i : Nat) (z : Int32), i + e = x0 → wY_weigh_123 post (nI g) m tP tQ dl ca sn bm dn wc nb ns (e + 2) 0 (nI i) ba ds mk vt bo ys yv nt (upd yz g z) := by
  intro e
  induction e with
  | zero =>
    intro i z hi
    refine br_f (nI_ge (b := 256) (by omega) (by decide)) (br_t rfl ⟨vp_in_nI (by omega) (by omega), ?_⟩)
    rw [nI_clamp (by omega), rb_uu]
    rw [show i = x0 by omega]
    refine nm_e (br_t hm (br_t hP (ys_r (br_t ?_ (nm_e (br_c (fun _ => yw_f hp) (fun _ => br_f (by decide) (yw_f hp))))))))
    rw [hc, pk_un (by omega)]
  | succ e ih =>
    intro i z hi
    refine br_f (nI_ge (b := 256) (by omega) (by decide)) (br_t rfl ⟨vp_in_nI (by omega) (by omega), ?_⟩)
    rw [nI_clamp (by omega), rb_uu]
    refine nm_e (br_t hm (br_t hP (ys_r (br_f ?_ (nm_r (nI_1 i) (ih _ _ (by omega)))))))
    rw [pk_un (by omega)]
    exact hu i (by omega)
theorem y1_p {post : SY → Prop} {g x0 : Nat} {tP tQ m : Int32} (hm : m < 0) (hg : g < 4) (hx : x0 < 256) (hP : ¬ tP = 0) (hc : sm_D (upd yz g (nI x0)) = yz 4) (hu : ∀ y : Nat, y < x0 → ¬ sm_D (upd yz g (nI y)) = yz 4) (hp : post (dl, ca, sn, bm, dn, wc, nb, ns, ba, ds, mk, vt, bo, ys, yv, nt, fn_2 tQ (fn_1 tP (upd yz g (nI x0))))) : ∀ (e i : Nat) (z : Int32), i + e = x0 → wY_weigh_123 post (nI g) m tP tQ dl ca sn bm dn wc nb ns (e + 2) 0 (nI i) ba ds mk vt bo ys yv nt (upd yz g z) := by
  intro e
  induction e with
  | zero =>
    intro i z hi
    refine br_f (nI_ge (b := 256) (by omega) (by decide)) (br_t rfl ⟨vp_in_nI (by omega) (by omega), ?_⟩)
    rw [nI_clamp (by omega), rb_uu]
    rw [show i = x0 by omega]
    refine nm_e (br_t hm (br_f hP (yd_r (br_t ?_ (nm_e (br_c (fun _ => yw_f hp) (fun _ => br_f (by decide) (yw_f hp))))))))
    rw [hc, pk_un (by omega)]
  | succ e ih =>
    intro i z hi
    refine br_f (nI_ge (b := 256) (by omega) (by decide)) (br_t rfl ⟨vp_in_nI (by omega) (by omega), ?_⟩)
    rw [nI_clamp (by omega), rb_uu]
    refine nm_e (br_t hm (br_f hP (yd_r (br_f ?_ (nm_r (nI_1 i) (ih _ _ (by omega)))))))
    rw [pk_un (by omega)]
    exact hu i (by omega)
def y2_v (yz : Nat → Int32) (g k : Nat) (x : Int32) : Int32 := sm_D (upd (upd yz g x) k 0) ^^^ yz 4
theorem y2_e {g k : Nat} {x z z' : Int32} (hgk : g < k) : upd (upd (upd (upd yz g z) k z') g x) k 0 = upd (upd yz g x) k 0 := by
  rw [rb_uc (f := upd yz g z) (by omega : k ≠ g), rb_uu, rb_uu]
theorem y2_l {post : SY → Prop} {g k x0 : Nat} {tP tQ : Int32} (hgk : g < k) (hk : k < 4) (hx : x0 < 256) (hc : sm_P (upd (upd yz g (nI x0)) k (y2_v yz g k (nI x0))) = yz 5) (hu : ∀ y : Nat, y < x0 → ¬ sm_P (upd (upd yz g (nI y)) k (y2_v yz g k (nI y))) = yz 5) (hp : post (dl, ca, sn, bm, dn, wc, nb, ns, ba, ds, mk, vt, bo, ys, yv, nt, fn_2 tQ (fn_1 tP (upd (upd yz g (nI x0)) k (y2_v yz g k (nI x0)))))) : ∀ (e i : Nat) (z z' : Int32), i + e = x0 → wY_weigh_123 post (nI g) (nI k) tP tQ dl ca sn bm dn wc nb ns (e + 2) 0 (nI i) ba ds mk vt bo ys yv nt (upd (upd yz g z) k z') := by
  have e2 : ∀ x : Int32, upd (upd (upd yz g x) k 0) k (sm_D (upd (upd yz g x) k 0) ^^^ (upd (upd yz g x) k 0) 4) = upd (upd yz g x) k (y2_v yz g k x) := by
    intro x
    rw [rb_uu, pk_un (by omega : 4 ≠ k), pk_un (by omega : 4 ≠ g)]
    rfl
  intro e
  induction e with
  | zero =>
    intro i z z' hi
    refine br_f (nI_ge (b := 256) (by omega) (by decide)) (br_t rfl ⟨vp_in_nI (by omega) (by omega), ?_⟩)
    rw [nI_clamp (by omega), show i = x0 by omega]
    refine nm_e (br_f (nI_pos (by omega)) ⟨vp_in_nI (by omega) (by omega), ?_⟩)
    rw [nI_clamp (by omega), y2_e hgk]
    refine nm_e (yd_r ⟨vp_in_nI (by omega) (by omega), ?_⟩)
    rw [e2]
    refine nm_e (ys_r (br_t ?_ (nm_e (br_c (fun _ => yw_f hp) (fun _ => br_f (by decide) (yw_f hp))))))
    rw [hc, pk_un (by omega), pk_un (by omega)]
  | succ e ih =>
    intro i z z' hi
    refine br_f (nI_ge (b := 256) (by omega) (by decide)) (br_t rfl ⟨vp_in_nI (by omega) (by omega), ?_⟩)
    rw [nI_clamp (by omega)]
    refine nm_e (br_f (nI_pos (by omega)) ⟨vp_in_nI (by omega) (by omega), ?_⟩)
    rw [nI_clamp (by omega), y2_e hgk]
    refine nm_e (yd_r ⟨vp_in_nI (by omega) (by omega), ?_⟩)
    rw [e2]
    refine nm_e (ys_r (br_f ?_ (nm_r (nI_1 i) (ih _ _ _ (by omega)))))
    rw [pk_un (by omega), pk_un (by omega)]
    exact hu i (by omega)
end
