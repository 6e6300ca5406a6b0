section
variable {wc dl ns nb ca dn sn bm : Int32} {ba ds mk wo vt bo us ws wv nt ys yv yz : Nat → Int32}
/-! products and sums, on both sides -/
theorem xp_l {post : Int32 → Prop} {k : Nat} (hk : k < 2 ^ 31) : ∀ (e i : Nat) (x : Int32), i + e = k → post (gf_d e x) → wX_product_5 post (nI k) wc dl ns nb ca dn sn bm ba ds mk wo vt bo us ws wv nt (e + 1) x (nI i) := by
  intro e
  induction e with
  | zero => intro i x hi hp; exact br_t (nI_le (by omega) (by omega)) hp
  | succ e ih =>
    intro i x hi hp
    refine br_f (nI_ge (by omega) (by omega)) (nm_r (rb_shl x) (br_c (fun h => nm_r (nI_1 i) (ih _ _ (by omega) ?_)) (fun h => nm_e (nm_r (nI_1 i) (ih _ _ (by omega) ?_)))))
    · have hp : post (gf_d e (gf_s x)) := hp
      rw [gf_s, if_pos h] at hp; exact hp
    · have hp : post (gf_d e (gf_s x)) := hp
      rw [gf_s, if_neg h] at hp; exact hp
theorem xp_r {post : Int32 → Prop} {k : Nat} {x : Int32} (hk : k < 2 ^ 31) (h : post (gf_d k x)) : wpX_product post (wc, dl, ns, nb, ca, dn, sn, bm, ba, ds, mk, wo, vt, bo, us, ws, wv, nt) (nI k) x :=
  ⟨k + 1, xp_l hk k 0 x (by omega) h⟩
theorem yp_l {post : Int32 → Prop} {k : Nat} (hk : k < 2 ^ 31) : ∀ (e i : Nat) (x : Int32), i + e = k → post (gf_d e x) → wY_product_4 post (nI k) (e + 1) x (nI i) := by
  intro e
  induction e with
  | zero => intro i x hi hp; exact br_t (nI_le (by omega) (by omega)) hp
  | succ e ih =>
    intro i x hi hp
    have hp : post (gf_d e (gf_s x)) := hp
    refine br_f (nI_ge (by omega) (by omega)) (br_c (fun h => nm_e (nm_r (nI_1 i) (ih _ _ (by omega) ?_))) (fun h => nm_e (nm_r (nI_1 i) (ih _ _ (by omega) ?_))))
    · rw [gf_s, if_neg (Int32.not_lt.mpr h)] at hp; exact hp
    · rw [gf_s, if_pos (Int32.not_le.mp h)] at hp; exact hp
theorem yp_r {post : Int32 → Prop} {k : Nat} {x : Int32} (hk : k < 2 ^ 31) (h : post (gf_d k x)) : wpY_product post (nI k) x :=
  ⟨k + 1, yp_l hk k 0 x (by omega) h⟩
theorem xs_s {post : Int32 → Prop} {i n : Nat} {q : Int32} (hi : i < 4) (h : wX_sumOfProducts_4 post wc dl ns nb ca dn sn bm ba ds mk wo vt bo us ws wv nt n (q ^^^ gf_d i (wo i)) (nI (i + 1))) : wX_sumOfProducts_4 post wc dl ns nb ca dn sn bm ba ds mk wo vt bo us ws wv nt (n + 1) q (nI i) := by
  refine br_f (nI_ge (b := 4) hi (by decide)) ⟨vp_in_nI (by omega) (by omega), xp_r (by omega) ?_⟩
  rw [nI_clamp (by omega)]
  exact nm_e (nm_r (nI_1 i) h)
theorem xs_r {post : Int32 → Prop} (h : post (sm_P wo)) : wpX_sumOfProducts post (wc, dl, ns, nb, ca, dn, sn, bm, ba, ds, mk, wo, vt, bo, us, ws, wv, nt) :=
  ⟨5, xs_s (i := 0) (by decide) (xs_s (i := 1) (by decide) (xs_s (i := 2) (by decide) (xs_s (i := 3) (by decide) (br_t (by decide) h))))⟩
theorem ys_s {post : Int32 → Prop} {i n : Nat} {q : Int32} (hi : i < 4) (h : wY_sumOfProducts_4 post dl ca sn bm dn wc nb ns ba ds mk vt bo ys yv nt yz n (q ^^^ gf_d i (yz i)) (nI (i + 1))) : wY_sumOfProducts_4 post dl ca sn bm dn wc nb ns ba ds mk vt bo ys yv nt yz (n + 1) q (nI i) := by
  refine br_f (nI_ge (b := 4) hi (by decide)) ⟨vp_in_nI (by omega) (by omega), yp_r (by omega) ?_⟩
  rw [nI_clamp (by omega)]
  exact nm_e (nm_r (nI_1 i) h)
theorem ys_r {post : Int32 → Prop} (h : post (sm_P yz)) : wpY_sumOfProducts post (dl, ca, sn, bm, dn, wc, nb, ns, ba, ds, mk, vt, bo, ys, yv, nt, yz) :=
  ⟨5, ys_s (i := 0) (by decide) (ys_s (i := 1) (by decide) (ys_s (i := 2) (by decide) (ys_s (i := 3) (by decide) (br_t (by decide) h))))⟩
theorem xd_r {post : Int32 → Prop} (h : post (sm_D wo)) : wpX_sumOfData post (wc, dl, ns, nb, ca, dn, sn, bm, ba, ds, mk, wo, vt, bo, us, ws, wv, nt) := h
theorem yd_r {post : Int32 → Prop} (h : post (sm_D yz)) : wpY_sum post (dl, ca, sn, bm, dn, wc, nb, ns, ba, ds, mk, vt, bo, ys, yv, nt, yz) := h
/-! whether a byte is there -/
def th_v (ds mk : Nat → Int32) (d s : Nat) : Int32 := if ds d = 0 then 1 else if ds d = 2 then (if mk d ≤ nI s then 0 else 1) else 0
theorem th_n (d s : Nat) : narrow .boolean (.int (th_v ds mk d s)) = .int (th_v ds mk d s) := by
  unfold th_v
  split
  · rfl
  · split
    · split <;> rfl
    · rfl
theorem xt_r {post : Int32 → Prop} {d s : Nat} (hd : d < 6) (hs : s < 16) (h : post (th_v ds mk d s)) : wpX_isThere post (wc, dl, ns, nb, ca, dn, sn, bm, ba, ds, mk, wo, vt, bo, us, ws, wv, nt) (nI d) (nI s) := by
  refine br_f (nI_pos (by omega)) (br_f (nI_ge (b := 6) hd (by decide)) (br_f (nI_pos (by omega)) (br_t (nI_lt (b := 16) hs (by decide)) ⟨vp_in_nI hd (by omega), ?_⟩)))
  rw [nI_clamp (by omega)]
  unfold th_v at h
  refine br_c (fun a => ?_) (fun a => ⟨vp_in_nI hd (by omega), br_c (fun b => ⟨vp_in_nI hd (by omega), br_c (fun c => ?_) (fun c => ?_)⟩) (fun b => ?_)⟩)
  · rw [if_pos a] at h; exact h
  · rw [if_neg a, if_pos b, if_pos c] at h; exact h
  · rw [if_neg a, if_pos b, if_neg c] at h; exact h
  · rw [if_neg a, if_neg b] at h; exact h
theorem yt_r {post : Int32 → Prop} {d s : Nat} (hd : d < 6) (h : post (th_v ds mk d s)) : wpY_isThere post (dl, ca, sn, bm, dn, wc, nb, ns, ba, ds, mk, vt, bo, ys, yv, nt, yz) (nI d) (nI s) := by
  refine ⟨vp_in_nI hd (by omega), ?_⟩
  rw [nI_clamp (by omega)]
  unfold th_v at h
  refine br_c (fun a => ?_) (fun a => ⟨vp_in_nI hd (by omega), br_c (fun b => ⟨vp_in_nI hd (by omega), br_c (fun c => ?_) (fun c => ?_)⟩) (fun b => ?_)⟩)
  · rw [if_pos a] at h; exact h
  · rw [if_neg a, if_pos b, if_pos c] at h; exact h
  · rw [if_neg a, if_pos b, if_neg c] at h; exact h
  · rw [if_neg a, if_neg b] at h; exact h
theorem yh_r {post : Int32 → Prop} {s k : Nat} (hs : s < 16) (hk : k < 6) (h : post (th_v ds mk ((s + k) % 6) s)) : wpY_has post (dl, ca, sn, bm, dn, wc, nb, ns, ba, ds, mk, vt, bo, ys, yv, nt, yz) (nI s) (nI k) := by
  refine ⟨rb_6, ?_⟩
  rw [rb_dk (by omega) (by omega)]
  exact yt_r (Nat.mod_lt _ (by decide)) ⟨th_n _ _, h⟩
theorem yc_r {post : Int32 → Prop} {s k : Nat} (hs : s < 16) (hk : k < 6) (h : post (nI ((s + k) % 6 * 16 + s))) : wpY_cell post (nI s) (nI k) := by
  refine ⟨rb_6, ?_⟩
  rw [rb_dk (by omega) (by omega), rb_cell]
  exact h
/-! how many bytes of a stripe are missing -/
def cm_x (ds mk : Nat → Int32) (s : Nat) : Nat → Nat
  | 0 => 0
  | n + 1 => cm_x ds mk s n + if th_v ds mk n s = 0 then 1 else 0
def cm_y (ds mk : Nat → Int32) (s : Nat) : Nat → Nat
  | 0 => 0
  | n + 1 => cm_y ds mk s n + if th_v ds mk ((s + n) % 6) s = 0 then 1 else 0
theorem cm_e (s : Nat) : cm_y ds mk s 6 = cm_x ds mk s 6 := by
  simp only [cm_x, cm_y]
  generalize hf : (fun d => if th_v ds mk d s = 0 then 1 else 0) = f
  have e : ∀ d, (if th_v ds mk d s = 0 then 1 else 0) = f d := fun d => by rw [← hf]
  simp only [e]
  have h : s % 6 = 0 ∨ s % 6 = 1 ∨ s % 6 = 2 ∨ s % 6 = 3 ∨ s % 6 = 4 ∨ s % 6 = 5 := by omega
  rcases h with h | h | h | h | h | h
  · rw [show (s + 0) % 6 = 0 by omega, show (s + 1) % 6 = 1 by omega, show (s + 2) % 6 = 2 by omega, show (s + 3) % 6 = 3 by omega, show (s + 4) % 6 = 4 by omega, show (s + 5) % 6 = 5 by omega]
  · rw [show (s + 0) % 6 = 1 by omega, show (s + 1) % 6 = 2 by omega, show (s + 2) % 6 = 3 by omega, show (s + 3) % 6 = 4 by omega, show (s + 4) % 6 = 5 by omega, show (s + 5) % 6 = 0 by omega]; omega
  · rw [show (s + 0) % 6 = 2 by omega, show (s + 1) % 6 = 3 by omega, show (s + 2) % 6 = 4 by omega, show (s + 3) % 6 = 5 by omega, show (s + 4) % 6 = 0 by omega, show (s + 5) % 6 = 1 by omega]; omega
  · rw [show (s + 0) % 6 = 3 by omega, show (s + 1) % 6 = 4 by omega, show (s + 2) % 6 = 5 by omega, show (s + 3) % 6 = 0 by omega, show (s + 4) % 6 = 1 by omega, show (s + 5) % 6 = 2 by omega]; omega
  · rw [show (s + 0) % 6 = 4 by omega, show (s + 1) % 6 = 5 by omega, show (s + 2) % 6 = 0 by omega, show (s + 3) % 6 = 1 by omega, show (s + 4) % 6 = 2 by omega, show (s + 5) % 6 = 3 by omega]; omega
  · rw [show (s + 0) % 6 = 5 by omega, show (s + 1) % 6 = 0 by omega, show (s + 2) % 6 = 1 by omega, show (s + 3) % 6 = 2 by omega, show (s + 4) % 6 = 3 by omega, show (s + 5) % 6 = 4 by omega]; omega
theorem xm_s {post : Int32 → Prop} {s i c n : Nat} (hs : s < 16) (hi : i < 6) (h : wX_countMissing_4 post (nI s) wc dl ns nb ca dn sn bm ba ds mk wo vt bo us ws wv nt n (nI (c + if th_v ds mk i s = 0 then 1 else 0)) (nI (i + 1))) : wX_countMissing_4 post (nI s) wc dl ns nb ca dn sn bm ba ds mk wo vt bo us ws wv nt (n + 1) (nI c) (nI i) := by
  refine br_f (nI_ge (b := 6) hi (by decide)) (xt_r hi hs (br_c (fun z => ?_) (fun z => ?_)))
  · rw [if_pos z] at h
    exact nm_r (nI_1 c) (nm_r (nI_1 i) h)
  · rw [if_neg z] at h
    exact nm_r (nI_1 i) h
theorem xm_r {post : Int32 → Prop} {s : Nat} (hs : s < 16) (h : post (nI (cm_x ds mk s 6))) : wpX_countMissing post (wc, dl, ns, nb, ca, dn, sn, bm, ba, ds, mk, wo, vt, bo, us, ws, wv, nt) (nI s) :=
  ⟨7, xm_s (i := 0) (c := 0) hs (by decide) (xm_s (i := 1) hs (by decide) (xm_s (i := 2) hs (by decide) (xm_s (i := 3) hs (by decide) (xm_s (i := 4) hs (by decide) (xm_s (i := 5) hs (by decide) (br_t (by decide) h))))))⟩
theorem cm_le {s : Nat} : ∀ n, cm_x ds mk s n ≤ n := by
  intro n
  induction n with
  | zero => exact Nat.le_refl 0
  | succ n ih =>
    show cm_x ds mk s n + (if _ then 1 else 0) ≤ n + 1
    split <;> omega
def lo_v (ds mk : Nat → Int32) (s : Nat) : Int32 := if cm_x ds mk s 6 ≤ 2 then 0 else 1
theorem xl_r {post : Int32 → Prop} {s : Nat} (hs : s < 16) (h : post (lo_v ds mk s)) : wpX_isLost post (wc, dl, ns, nb, ca, dn, sn, bm, ba, ds, mk, wo, vt, bo, us, ws, wv, nt) (nI s) := by
  unfold wpX_isLost
  have hc := cm_le (ds := ds) (mk := mk) (s := s) 6
  unfold lo_v at h
  refine xm_r hs (pk_le (cm_x ds mk s 6) 2 (fun z => ?_) (fun z => ?_))
  · rw [if_pos z] at h; exact h
  · rw [if_neg (by omega)] at h; exact h
theorem yl_s {post : Int32 → Prop} {s i c n : Nat} (hs : s < 16) (hi : i < 6) (h : wY_lost_4 post (nI s) dl ca sn bm dn wc nb ns ba ds mk vt bo ys yv nt yz n (nI (c + if th_v ds mk ((s + i) % 6) s = 0 then 1 else 0)) (nI (i + 1))) : wY_lost_4 post (nI s) dl ca sn bm dn wc nb ns ba ds mk vt bo ys yv nt yz (n + 1) (nI c) (nI i) := by
  refine br_f (nI_ge (b := 6) hi (by decide)) (yh_r hs hi (br_c (fun z => ?_) (fun z => ?_)))
  · rw [if_pos z] at h
    exact nm_r (nI_1 c) (nm_r (nI_1 i) h)
  · rw [if_neg z] at h
    exact nm_r (nI_1 i) h
theorem yl_r {post : Int32 → Prop} {s : Nat} (hs : s < 16) (h : post (lo_v ds mk s)) : wpY_lost post (dl, ca, sn, bm, dn, wc, nb, ns, ba, ds, mk, vt, bo, ys, yv, nt, yz) (nI s) := by
  have hc := cm_le (ds := ds) (mk := mk) (s := s) 6
  have he : wY_lost_4 post (nI s) dl ca sn bm dn wc nb ns ba ds mk vt bo ys yv nt yz 1 (nI (cm_y ds mk s 6)) (nI 6) := by
    rw [cm_e]
    unfold lo_v at h
    refine br_t (by decide) (pk_le (cm_x ds mk s 6) 2 (fun z => ?_) (fun z => ?_))
    · rw [if_pos z] at h; exact h
    · rw [if_neg (by omega)] at h; exact h
  exact ⟨7, yl_s (i := 0) (c := 0) hs (by decide) (yl_s (i := 1) hs (by decide) (yl_s (i := 2) hs (by decide) (yl_s (i := 3) hs (by decide) (yl_s (i := 4) hs (by decide) (yl_s (i := 5) hs (by decide) he)))))⟩
end
