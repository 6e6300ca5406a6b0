section
variable {wc dl ns nb ca dn sn bm : Int32} {ba ds mk wo vt bo us ws wv nt ys yv yz : Nat → Int32}
/-! state -/
theorem sh_2 {post : Int32 → Prop} (hp : post (nI (cn_b bo 2 120 64))) : ∀ e i : Nat, i + e = 64 → wY_state_55 post dl ca sn bm dn wc nb ns ba ds mk vt bo ys yv nt yz (e + 1) (nI (cn_b bo 2 120 i)) (nI i) := by
  intro e
  induction e with
  | zero =>
    intro i hi'
    rw [show i = 64 by omega]
    exact br_t (by decide) hp
  | succ e ih =>
    intro i hi'
    have ih := ih (i + 1) (by omega)
    have hle := ct_le (bo := bo) (nI i) 120
    have e1 : cn_b bo 2 120 (i + 1) = cn_b bo 2 120 i + if 2 ≤ ct_n bo (nI i) 120 ∧ ct_n bo (nI i) 120 ≤ 120 then 1 else 0 := rfl
    rw [e1] at ih
    refine br_f (nI_ge (b := 64) (by omega) (by decide)) (yu_r (pk_le _ 1 (fun z => nm_r (nI_1 i) ?_) (fun z => nm_r (nI_1 _) (nm_r (nI_1 i) ?_))))
    · rw [if_neg (by omega)] at ih; exact ih
    · rw [if_pos (by omega)] at ih; exact ih
def cv_n (vt : Nat → Int32) : Nat → Nat
  | 0 => 0
  | n + 1 => cv_n vt n + if vt n = 0 then 0 else 1
theorem cv_x {post : Int32 → Prop} (hp : post (nI (cv_n vt 6))) : ∀ e i : Nat, i + e = 6 → wX_countVolumes_4 post wc dl ns nb ca dn sn bm ba ds mk wo vt bo us ws wv nt (e + 1) (nI (cv_n vt i)) (nI i) := by
  intro e
  induction e with
  | zero =>
    intro i hi'
    rw [show i = 6 by omega]
    exact br_t (by decide) hp
  | succ e ih =>
    intro i hi'
    have ih := ih (i + 1) (by omega)
    have e1 : cv_n vt (i + 1) = cv_n vt i + if vt i = 0 then 0 else 1 := rfl
    rw [e1] at ih
    refine br_f (nI_ge (b := 6) (by omega) (by decide)) ⟨vp_in_nI (by omega) (by omega), ?_⟩
    rw [nI_clamp (by omega)]
    refine br_c (fun z => nm_r (nI_1 i) ?_) (fun z => nm_r (nI_1 _) (nm_r (nI_1 i) ?_))
    · rw [if_pos z] at ih; exact ih
    · rw [if_neg z] at ih; exact ih
theorem cv_y {post : Int32 → Prop} (hp : post (nI (cv_n vt 6))) : ∀ e i : Nat, i + e = 6 → wY_state_83 post dl ca sn bm dn wc nb ns ba ds mk vt bo ys yv nt yz (e + 1) (nI (cv_n vt i)) (nI i) := by
  intro e
  induction e with
  | zero =>
    intro i hi'
    rw [show i = 6 by omega]
    exact br_t (by decide) hp
  | succ e ih =>
    intro i hi'
    have ih := ih (i + 1) (by omega)
    have e1 : cv_n vt (i + 1) = cv_n vt i + if vt i = 0 then 0 else 1 := rfl
    rw [e1] at ih
    refine br_f (nI_ge (b := 6) (by omega) (by decide)) ⟨vp_in_nI (by omega) (by omega), ?_⟩
    rw [nI_clamp (by omega)]
    refine br_c (fun z => nm_r (nI_1 i) ?_) (fun z => nm_r (nI_1 _) (nm_r (nI_1 i) ?_))
    · rw [if_pos z] at ih; exact ih
    · rw [if_neg z] at ih; exact ih
def cl_n (ds mk : Nat → Int32) : Nat → Nat
  | 0 => 0
  | n + 1 => cl_n ds mk n + if lo_v ds mk n = 0 then 0 else 1
theorem cl_x {post : Int32 → Prop} (hp : post (nI (cl_n ds mk 16))) : ∀ e i : Nat, i + e = 16 → wX_countLostStripes_4 post wc dl ns nb ca dn sn bm ba ds mk wo vt bo us ws wv nt (e + 1) (nI (cl_n ds mk i)) (nI i) := by
  intro e
  induction e with
  | zero =>
    intro i hi'
    rw [show i = 16 by omega]
    exact br_t (by decide) hp
  | succ e ih =>
    intro i hi'
    have ih := ih (i + 1) (by omega)
    have e1 : cl_n ds mk (i + 1) = cl_n ds mk i + if lo_v ds mk i = 0 then 0 else 1 := rfl
    rw [e1] at ih
    refine br_f (nI_ge (b := 16) (by omega) (by decide)) (xl_r (by omega) (br_c (fun z => nm_r (nI_1 i) ?_) (fun z => nm_r (nI_1 _) (nm_r (nI_1 i) ?_))))
    · rw [if_pos z] at ih; exact ih
    · rw [if_neg z] at ih; exact ih
theorem cl_y {post : Int32 → Prop} (hp : post (nI (cl_n ds mk 16))) : ∀ e i : Nat, i + e = 16 → wY_state_111 post dl ca sn bm dn wc nb ns ba ds mk vt bo ys yv nt yz (e + 1) (nI (cl_n ds mk i)) (nI i) := by
  intro e
  induction e with
  | zero =>
    intro i hi'
    rw [show i = 16 by omega]
    exact br_t (by decide) hp
  | succ e ih =>
    intro i hi'
    have ih := ih (i + 1) (by omega)
    have e1 : cl_n ds mk (i + 1) = cl_n ds mk i + if lo_v ds mk i = 0 then 0 else 1 := rfl
    rw [e1] at ih
    refine br_f (nI_ge (b := 16) (by omega) (by decide)) (yl_r (by omega) (br_c (fun z => nm_r (nI_1 i) ?_) (fun z => nm_r (nI_1 _) (nm_r (nI_1 i) ?_))))
    · rw [if_pos z] at ih; exact ih
    · rw [if_neg z] at ih; exact ih
/-- what is below 8 and not below 0: X comes to its switch, Y too -/
theorem so_state {u : SX} {v : SY} (R : rl_s u v) (p0 : Int32) : si_o (fun post => wpX_state post u p0) (fun post => wpY_state post v p0) := by
  obtain ⟨w, d, s, b, c, ca, dn, bm, ba, ds, mk, wo, vt, bo, us, ws, wv, nt, ys, yv, yz, rfl, rfl, H⟩ := R
  have hus := H.2.2.2.2.2.2.2.2.2.1
  rcases pk_ix p0 (n := 22) (by decide) with h | h | ⟨n, hn, rfl⟩
  · have h8 : p0 < 8 := Int32.lt_trans h (by decide)
    have h16 : p0 < 16 := Int32.lt_trans h (by decide)
    exact ⟨-1, fun post hp => br_t h8 (br_t h16 (br_t h hp)), fun post hp => br_t h (br_t h8 (br_t rfl (br_t h16 (br_t rfl hp))))⟩
  · have h0 := ge_0 22 (by decide) h
    have h8 : ¬ p0 < 8 := Int32.not_lt.mpr (Int32.le_trans (by decide) h)
    have h14 : (14 : Int32) ≤ p0 := Int32.le_trans (by decide) h
    have h16 : ¬ p0 < 16 := Int32.not_lt.mpr (Int32.le_trans (by decide) h)
    have h7 : (7 : Int32) < p0 := Int32.lt_of_lt_of_le (by decide) h
    have h13 : (13 : Int32) < p0 := Int32.lt_of_lt_of_le (by decide) h
    have h21 : (21 : Int32) < p0 := Int32.lt_of_lt_of_le (by decide) h
    exact ⟨-1, fun post hp => br_f h8 (br_t h14 (br_f h16 (br_t h (br_f h0 (br_t h7 hp))))), fun post hp => br_f h0 (br_t h7 (br_f h8 (br_t h13 (br_t rfl (br_f h16 (br_t h21 (br_t rfl hp)))))))⟩
  · have h0 : ¬ nI n < 0 := nI_pos (by omega)
    by_cases c8 : n < 8
    · have h8 : nI n < (8 : Int32) := nI_lt (b := 8) c8 (by decide)
      have h16 : nI n < (16 : Int32) := nI_lt (b := 16) (by omega) (by decide)
      have h7 : ¬ (7 : Int32) < nI n := nI_nlt (a := 7) (b := n) (by omega) (by decide)
      match n, c8 with
      | 0, _ => exact ⟨nI (cn_b bo 0 0 64), fun post hp => br_t h8 (br_t h16 (br_f h0 (br_f h7 (br_t rfl (cb_r (lo := 0) (hi := 0) hus (by decide) (by decide) hp))))), fun post hp => br_f h0 (br_f h7 (br_t rfl (fr_r hp)))⟩
      | 1, _ => exact ⟨nI (cn_b bo 2 120 64), fun post hp => br_t h8 (br_t h16 (br_f h0 (br_f h7 (br_f (by decide) (br_t rfl (cb_r (lo := 2) (hi := 120) hus (by decide) (by decide) hp)))))), fun post hp => br_f h0 (br_f h7 (br_f (by decide) (br_t rfl ⟨65, sh_2 hp 64 0 (by omega)⟩)))⟩
      | 2, _ => exact ⟨nI (cv_n vt 6), fun post hp => br_t h8 (br_t h16 (br_f h0 (br_f h7 (br_f (by decide) (br_f (by decide) (br_t rfl ⟨7, cv_x hp 6 0 (by omega)⟩)))))), fun post hp => br_f h0 (br_f h7 (br_f (by decide) (br_f (by decide) (br_t rfl ⟨7, cv_y hp 6 0 (by omega)⟩))))⟩
      | 3, _ => exact ⟨nI (cl_n ds mk 16), fun post hp => br_t h8 (br_t h16 (br_f h0 (br_f h7 (br_f (by decide) (br_f (by decide) (br_f (by decide) (br_t rfl ⟨17, cl_x hp 16 0 (by omega)⟩))))))), fun post hp => br_f h0 (br_f h7 (br_f (by decide) (br_f (by decide) (br_f (by decide) (br_t rfl ⟨17, cl_y hp 16 0 (by omega)⟩)))))⟩
      | 4, _ => exact ⟨bm, fun post hp => br_t h8 (br_t h16 (br_f h0 (br_f h7 (br_f (by decide) (br_f (by decide) (br_f (by decide) (br_f (by decide) (br_t rfl hp)))))))), fun post hp => br_f h0 (br_f h7 (br_f (by decide) (br_f (by decide) (br_f (by decide) (br_f (by decide) (br_t rfl hp))))))⟩
      | 5, _ => exact ⟨nI c, fun post hp => br_t h8 (br_t h16 (br_f h0 (br_f h7 (br_f (by decide) (br_f (by decide) (br_f (by decide) (br_f (by decide) (br_f (by decide) (br_t rfl hp))))))))), fun post hp => br_f h0 (br_f h7 (br_f (by decide) (br_f (by decide) (br_f (by decide) (br_f (by decide) (br_f (by decide) (br_t rfl hp)))))))⟩
      | 6, _ =>
        by_cases hdn : dn = 0
        · exact ⟨0, fun post hp => br_t h8 (br_t h16 (br_f h0 (br_f h7 (br_f (by decide) (br_f (by decide) (br_f (by decide) (br_f (by decide) (br_f (by decide) (br_f (by decide) (br_t rfl (br_t hdn hp))))))))))), fun post hp => br_f h0 (br_f h7 (br_f (by decide) (br_f (by decide) (br_f (by decide) (br_f (by decide) (br_f (by decide) (br_f (by decide) (br_t rfl (br_t hdn hp)))))))))⟩
        · exact ⟨1, fun post hp => br_t h8 (br_t h16 (br_f h0 (br_f h7 (br_f (by decide) (br_f (by decide) (br_f (by decide) (br_f (by decide) (br_f (by decide) (br_f (by decide) (br_t rfl (br_f hdn hp))))))))))), fun post hp => br_f h0 (br_f h7 (br_f (by decide) (br_f (by decide) (br_f (by decide) (br_f (by decide) (br_f (by decide) (br_f (by decide) (br_t rfl (br_f hdn hp)))))))))⟩
      | 7, _ => exact ⟨nI w, fun post hp => br_t h8 (br_t h16 (br_f h0 (br_f h7 (br_f (by decide) (br_f (by decide) (br_f (by decide) (br_f (by decide) (br_f (by decide) (br_f (by decide) (br_f (by decide) (br_t rfl hp))))))))))), fun post hp => br_f h0 (br_f h7 (br_f (by decide) (br_f (by decide) (br_f (by decide) (br_f (by decide) (br_f (by decide) (br_f (by decide) (br_f (by decide) (br_t rfl hp)))))))))⟩
    · have h8 : ¬ nI n < (8 : Int32) := nI_nlt (b := 8) (by omega) (by omega)
      have h7 : (7 : Int32) < nI n := nI_lt (a := 7) (b := n) (by omega) (by omega)
      by_cases c14 : n < 14
      · have h14 : ¬ (14 : Int32) ≤ nI n := nI_ge (b := 14) c14 (by decide)
        have h13 : ¬ (13 : Int32) < nI n := nI_nlt (a := 13) (b := n) (by omega) (by decide)
        have e8 : nI n - 8 = nI (n - 8) := pk_sub (b := 8) (by omega)
        have hin : vp_in (nI n - 8) 6 := by rw [e8]; exact vp_in_nI (by omega) (by omega)
        exact ⟨ds (nI n - 8).toNatClampNeg, fun post hp => br_f h8 (br_f h14 ⟨hin, hp⟩), fun post hp => br_f h0 (br_t h7 (br_f h8 (br_f h13 (br_f (by decide) ⟨hin, hp⟩))))⟩
      · have h14 : (14 : Int32) ≤ nI n := nI_le (a := 14) (b := n) (by omega) (by omega)
        have h13 : (13 : Int32) < nI n := nI_lt (a := 13) (b := n) (by omega) (by omega)
        by_cases c16 : n < 16
        · have h16 : nI n < (16 : Int32) := nI_lt (b := 16) c16 (by decide)
          exact ⟨-1, fun post hp => br_f h8 (br_t h14 (br_t h16 (br_f h0 (br_t h7 hp)))), fun post hp => br_f h0 (br_t h7 (br_f h8 (br_t h13 (br_t rfl (br_t h16 (br_t rfl hp))))))⟩
        · have h16 : ¬ nI n < (16 : Int32) := nI_nlt (b := 16) (by omega) (by omega)
          have h22 : ¬ (22 : Int32) ≤ nI n := nI_ge (b := 22) hn (by decide)
          have h21 : ¬ (21 : Int32) < nI n := nI_nlt (a := 21) (b := n) (by omega) (by decide)
          have e16 : nI n - 16 = nI (n - 16) := pk_sub (b := 16) (by omega)
          have hin : vp_in (nI n - 16) 6 := by rw [e16]; exact vp_in_nI (by omega) (by omega)
          by_cases z : ds (nI n - 16).toNatClampNeg = 2
          · exact ⟨mk (nI n - 16).toNatClampNeg, fun post hp => br_f h8 (br_t h14 (br_f h16 (br_f h22 ⟨hin, br_t z ⟨hin, hp⟩⟩))), fun post hp => br_f h0 (br_t h7 (br_f h8 (br_t h13 (br_t rfl (br_f h16 (br_f h21 (br_f (by decide) ⟨hin, br_t z ⟨hin, hp⟩⟩)))))))⟩
          · exact ⟨-1, fun post hp => br_f h8 (br_t h14 (br_f h16 (br_f h22 ⟨hin, br_f z hp⟩))), fun post hp => br_f h0 (br_t h7 (br_f h8 (br_t h13 (br_t rfl (br_f h16 (br_f h21 (br_f (by decide) ⟨hin, br_f z hp⟩)))))))⟩
/-! the constructors -/
def nb_f (i : Nat) : Nat → Int32 := fun j => if j < i then -1 else 0
theorem nb_0 : nb_f 0 = fun _ => 0 := by
  funext j
  unfold nb_f
  rw [if_neg (by omega)]
theorem nb_s (i : Nat) : upd (nb_f i) i (-1) = nb_f (i + 1) := by
  funext j
  unfold nb_f upd
  by_cases c : j = i
  · rw [if_pos c, if_pos (by omega)]
  · rw [if_neg c]
    dsimp only
    by_cases e : j < i
    · rw [if_pos e, if_pos (by omega)]
    · rw [if_neg e, if_neg (by omega)]
theorem in_x {post : SX → Prop} (h : post (wc, dl, ns, nb, ca, dn, sn, bm, ba, ds, mk, wo, vt, nb_f 120, us, ws, wv, nt)) : ∀ e i : Nat, i + e = 120 → wX_init_132 post wc dl ns nb ca dn sn bm (e + 1) (nI i) ba ds mk wo vt (nb_f i) us ws wv nt := by
  intro e
  induction e with
  | zero =>
    intro i hi
    rw [show i = 120 by omega]
    exact br_t (by decide) h
  | succ e ih =>
    intro i hi
    refine br_f (nI_ge (b := 120) (by omega) (by decide)) ⟨vp_in_nI (by omega) (by omega), ?_⟩
    rw [nI_clamp (by omega), nb_s]
    exact nm_e (nm_r (nI_1 i) (ih (i + 1) (by omega)))
theorem in_y {post : SY → Prop} (h : post (dl, ca, sn, bm, dn, wc, nb, ns, ba, ds, mk, vt, nb_f 120, ys, yv, nt, yz)) : ∀ e i : Nat, i + e = 120 → wY_init_89 post dl ca sn bm dn wc nb ns (e + 1) (nI i) ba ds mk vt (nb_f i) ys yv nt yz := by
  intro e
  induction e with
  | zero =>
    intro i hi
    rw [show i = 120 by omega]
    exact br_t (by decide) h
  | succ e ih =>
    intro i hi
    refine br_f (nI_ge (b := 120) (by omega) (by decide)) ⟨vp_in_nI (by omega) (by omega), ?_⟩
    rw [nI_clamp (by omega), nb_s]
    exact nm_e (nm_r (nI_1 i) (ih (i + 1) (by omega)))
theorem ct_0 {b : Nat} (hb : b < 64) : ∀ n : Nat, n ≤ 120 → ct_n (nb_f 120) (nI b) n = 0 := by
  intro n
  induction n with
  | zero => intro _; rfl
  | succ n ih =>
    intro h
    show ct_n (nb_f 120) (nI b) n + (if nb_f 120 n = nI b then 1 else 0) = 0
    have e : nb_f 120 n = -1 := if_pos (by omega)
    rw [ih (by omega), e, if_neg (nb_n hb)]
theorem rl_0 : rl_i 0 0 0 0 0 (-1) (fun _ => 0) (fun _ => 0) (fun _ => 0) (nb_f 120) (fun _ => 0) (fun _ => 0) (fun _ => 0) (fun _ => 0) (fun _ => 0) (fun _ => 0) := by
  refine ⟨by decide, by decide, by decide, by decide, by decide, Or.inl rfl, fun _ _ => is_b0, fun j _ => ⟨0, by decide, rfl, fun z => absurd z (by decide : ¬ (0 : Int32) = 2)⟩, fun j hj => Or.inl (if_pos hj), fun b hb => ?_, ⟨fun i hi => absurd hi (by omega), fun i j _ hj => absurd hj (by omega)⟩, fun _ _ => is_b0⟩
  rw [ct_0 hb 120 (by decide)]
  rfl
theorem rl_n : wpX_init (fun u => wpY_init (fun v => rl_s u v)) := by
  refine nm_e ⟨121, ?_⟩
  have hx := in_x (post := fun u => wpY_init (fun v => rl_s u v)) (wc := 0) (dl := 0) (ns := 0) (nb := 0) (ca := -1) (dn := 0) (sn := 0) (bm := 0) (ba := fun _ => 0) (ds := fun _ => 0) (mk := fun _ => 0) (wo := fun _ => 0) (vt := upd (fun _ => 0) 0 (vp_nar .boolean 1)) (us := fun _ => 0) (ws := fun _ => 0) (wv := fun _ => 0) (nt := fun _ => 0) ?_ 120 0 (by omega)
  · rw [nb_0] at hx
    exact hx
  · refine nm_e ⟨121, ?_⟩
    have hy := in_y (post := fun v => rl_s (0, 0, 0, 0, -1, 0, 0, 0, (fun _ => 0), (fun _ => 0), (fun _ => 0), (fun _ => 0), upd (fun _ => 0) 0 (vp_nar .boolean 1), nb_f 120, (fun _ => 0), (fun _ => 0), (fun _ => 0), (fun _ => 0)) v) (wc := 0) (dl := 0) (ns := 0) (nb := 0) (ca := -1) (dn := 0) (sn := 0) (bm := 0) (ba := fun _ => 0) (ds := fun _ => 0) (mk := fun _ => 0) (vt := upd (fun _ => 0) 0 (vp_nar .boolean 1)) (ys := fun _ => 0) (yv := fun _ => 0) (nt := fun _ => 0) (yz := fun _ => 0) ?_ 120 0 (by omega)
    · rw [nb_0] at hy
      exact hy
    · exact rl_m (w := 0) (d := 0) (s := 0) (b := 0) (c := 0) rl_0
end
