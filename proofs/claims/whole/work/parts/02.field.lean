section
/-! bytes, and the products of the document's field, over naturals and over ints -/
def is_b (x : Int32) : Prop := ∃ n : Nat, n < 256 ∧ x = nI n
theorem is_b0 : is_b 0 := ⟨0, by decide, rfl⟩
theorem is_bx {x y : Int32} (hx : is_b x) (hy : is_b y) : is_b (x ^^^ y) := by
  obtain ⟨a, ha, rfl⟩ := hx
  obtain ⟨b, hb, rfl⟩ := hy
  exact ⟨a ^^^ b, Nat.xor_lt_two_pow (n := 8) ha hb, nx_xor a b⟩
theorem is_ba (x : Int32) : is_b (x &&& 255) := by
  obtain ⟨j, hj, e⟩ := pk_andE x (m := 255) 8 (by decide)
  exact ⟨j, hj, e⟩
def gf_s (x : Int32) : Int32 := if 2 * x < 256 then 2 * x else 2 * x ^^^ 285
def gf_d : Nat → Int32 → Int32
  | 0, x => x
  | k + 1, x => gf_d k (gf_s x)
def gf_n (a : Nat) : Nat := if 2 * a < 256 then 2 * a else 2 * a ^^^ 285
def gf_m : Nat → Nat → Nat
  | 0, a => a
  | k + 1, a => gf_m k (gf_n a)
theorem gf_nb : ∀ a : Nat, a < 256 → gf_n a < 256 := by decide +kernel
theorem gf_mb : ∀ (k a : Nat), a < 256 → gf_m k a < 256 := by
  intro k
  induction k with
  | zero => intro a h; exact h
  | succ k ih => intro a h; exact ih _ (gf_nb a h)
theorem gf_sn {a : Nat} (h : a < 256) : gf_s (nI a) = nI (gf_n a) := by
  unfold gf_s gf_n
  have e : (2 : Int32) * nI a = nI (2 * a) := pk_mul 2 a
  rw [e]
  by_cases c : 2 * a < 256
  · have h1 : nI (2 * a) < 256 := nI_lt (b := 256) c (by decide)
    rw [if_pos c, if_pos h1]
  · have h1 : ¬ nI (2 * a) < 256 := nI_nlt (a := 2 * a) (b := 256) (by omega) (by omega)
    rw [if_neg c, if_neg h1]
    exact nx_xor (2 * a) 285
theorem gf_dn : ∀ (k a : Nat), a < 256 → gf_d k (nI a) = nI (gf_m k a) := by
  intro k
  induction k with
  | zero => intro a _; rfl
  | succ k ih =>
    intro a h
    show gf_d k (gf_s (nI a)) = nI (gf_m k (gf_n a))
    rw [gf_sn h]
    exact ih _ (gf_nb a h)
theorem is_bp {x : Int32} (k : Nat) (hx : is_b x) : is_b (gf_d k x) := by
  obtain ⟨a, ha, rfl⟩ := hx
  exact ⟨gf_m k a, gf_mb k a ha, gf_dn k a ha⟩
theorem gf_nt : ∀ a : Nat, a < 256 → gf_n a = 2 * a ^^^ (if a.testBit 7 then 285 else 0) := by decide +kernel
theorem gf_nx {a b : Nat} (ha : a < 256) (hb : b < 256) : gf_n (a ^^^ b) = gf_n a ^^^ gf_n b := by
  rw [gf_nt a ha, gf_nt b hb, gf_nt (a ^^^ b) (Nat.xor_lt_two_pow (n := 8) ha hb), Nat.testBit_xor]
  have e : 2 * (a ^^^ b) = 2 * a ^^^ 2 * b := by
    have := Nat.shiftLeft_xor_distrib (a := a) (b := b) (i := 1)
    simp only [Nat.shiftLeft_eq, Nat.pow_one] at this
    rw [Nat.mul_comm 2, Nat.mul_comm 2 a, Nat.mul_comm 2 b]
    exact this
  rw [e]
  cases a.testBit 7 <;> cases b.testBit 7 <;> simp only [Bool.xor_true, Bool.xor_false, Bool.not_true, Bool.not_false, Bool.false_eq_true, if_true, if_false, Nat.xor_zero]
  · ac_rfl
  · ac_rfl
  · rw [show 2 * a ^^^ 285 ^^^ (2 * b ^^^ 285) = (2 * a ^^^ 2 * b) ^^^ (285 ^^^ 285) by ac_rfl, Nat.xor_self, Nat.xor_zero]
theorem gf_mx : ∀ (k : Nat) {a b : Nat}, a < 256 → b < 256 → gf_m k (a ^^^ b) = gf_m k a ^^^ gf_m k b := by
  intro k
  induction k with
  | zero => intro a b _ _; rfl
  | succ k ih =>
    intro a b ha hb
    show gf_m k (gf_n (a ^^^ b)) = gf_m k (gf_n a) ^^^ gf_m k (gf_n b)
    rw [gf_nx ha hb]
    exact ih (gf_nb a ha) (gf_nb b hb)
/-- the product of e and a, by the digits of e -/
def pi_m (e a : Nat) : Nat := (if e.testBit 0 then gf_m 0 a else 0) ^^^ (if e.testBit 1 then gf_m 1 a else 0) ^^^ (if e.testBit 2 then gf_m 2 a else 0) ^^^ (if e.testBit 3 then gf_m 3 a else 0) ^^^ (if e.testBit 4 then gf_m 4 a else 0) ^^^ (if e.testBit 5 then gf_m 5 a else 0) ^^^ (if e.testBit 6 then gf_m 6 a else 0) ^^^ (if e.testBit 7 then gf_m 7 a else 0)
theorem pi_0 : ∀ a : Nat, a < 256 → pi_m 1 a < 256 ∧ gf_m 0 (pi_m 1 a) = a ∧ pi_m 1 (gf_m 0 a) = a := by decide +kernel
theorem pi_1 : ∀ a : Nat, a < 256 → pi_m 142 a < 256 ∧ gf_m 1 (pi_m 142 a) = a ∧ pi_m 142 (gf_m 1 a) = a := by decide +kernel
theorem pi_2 : ∀ a : Nat, a < 256 → pi_m 71 a < 256 ∧ gf_m 2 (pi_m 71 a) = a ∧ pi_m 71 (gf_m 2 a) = a := by decide +kernel
theorem pi_3 : ∀ a : Nat, a < 256 → pi_m 173 a < 256 ∧ gf_m 3 (pi_m 173 a) = a ∧ pi_m 173 (gf_m 3 a) = a := by decide +kernel
theorem pi_01 : ∀ a : Nat, a < 256 → pi_m 244 a < 256 ∧ gf_m 0 (pi_m 244 a) ^^^ gf_m 1 (pi_m 244 a) = a ∧ pi_m 244 (gf_m 0 a ^^^ gf_m 1 a) = a := by decide +kernel
theorem pi_02 : ∀ a : Nat, a < 256 → pi_m 167 a < 256 ∧ gf_m 0 (pi_m 167 a) ^^^ gf_m 2 (pi_m 167 a) = a ∧ pi_m 167 (gf_m 0 a ^^^ gf_m 2 a) = a := by decide +kernel
theorem pi_03 : ∀ a : Nat, a < 256 → pi_m 157 a < 256 ∧ gf_m 0 (pi_m 157 a) ^^^ gf_m 3 (pi_m 157 a) = a ∧ pi_m 157 (gf_m 0 a ^^^ gf_m 3 a) = a := by decide +kernel
theorem pi_12 : ∀ a : Nat, a < 256 → pi_m 122 a < 256 ∧ gf_m 1 (pi_m 122 a) ^^^ gf_m 2 (pi_m 122 a) = a ∧ pi_m 122 (gf_m 1 a ^^^ gf_m 2 a) = a := by decide +kernel
theorem pi_13 : ∀ a : Nat, a < 256 → pi_m 221 a < 256 ∧ gf_m 1 (pi_m 221 a) ^^^ gf_m 3 (pi_m 221 a) = a ∧ pi_m 221 (gf_m 1 a ^^^ gf_m 3 a) = a := by decide +kernel
theorem pi_23 : ∀ a : Nat, a < 256 → pi_m 61 a < 256 ∧ gf_m 2 (pi_m 61 a) ^^^ gf_m 3 (pi_m 61 a) = a ∧ pi_m 61 (gf_m 2 a ^^^ gf_m 3 a) = a := by decide +kernel
theorem pi_one {k : Nat} (hk : k < 4) : ∃ e : Nat, ∀ a : Nat, a < 256 → pi_m e a < 256 ∧ gf_m k (pi_m e a) = a ∧ pi_m e (gf_m k a) = a := by
  match k, hk with
  | 0, _ => exact ⟨_, pi_0⟩
  | 1, _ => exact ⟨_, pi_1⟩
  | 2, _ => exact ⟨_, pi_2⟩
  | 3, _ => exact ⟨_, pi_3⟩
theorem pi_two {g n : Nat} (hg : g < n) (hn : n < 4) : ∃ e : Nat, ∀ a : Nat, a < 256 → pi_m e a < 256 ∧ gf_m g (pi_m e a) ^^^ gf_m n (pi_m e a) = a ∧ pi_m e (gf_m g a ^^^ gf_m n a) = a := by
  have h : (g = 0 ∧ n = 1) ∨ (g = 0 ∧ n = 2) ∨ (g = 0 ∧ n = 3) ∨ (g = 1 ∧ n = 2) ∨ (g = 1 ∧ n = 3) ∨ (g = 2 ∧ n = 3) := by omega
  rcases h with ⟨rfl, rfl⟩ | ⟨rfl, rfl⟩ | ⟨rfl, rfl⟩ | ⟨rfl, rfl⟩ | ⟨rfl, rfl⟩ | ⟨rfl, rfl⟩
  · exact ⟨_, pi_01⟩
  · exact ⟨_, pi_02⟩
  · exact ⟨_, pi_03⟩
  · exact ⟨_, pi_12⟩
  · exact ⟨_, pi_13⟩
  · exact ⟨_, pi_23⟩
/-- one byte makes the product right -/
theorem sol_1 {k : Nat} (hk : k < 4) {q : Int32} (hq : is_b q) : ∃ x : Nat, x < 256 ∧ gf_d k (nI x) = q ∧ ∀ y : Nat, y < 256 → gf_d k (nI y) = q → y = x := by
  obtain ⟨c, hc, rfl⟩ := hq
  obtain ⟨e, he⟩ := pi_one hk
  obtain ⟨h1, h2, _⟩ := he c hc
  refine ⟨pi_m e c, h1, by rw [gf_dn k _ h1, h2], fun y hy ey => ?_⟩
  rw [gf_dn k y hy] at ey
  have hb := gf_mb k y hy
  have := (nI_eq (by omega) (by omega)).mp ey
  rw [← this]
  exact (he y hy).2.2.symm
/-- one byte of a pair with a given sum makes the products right -/
theorem sol_2 {g n : Nat} (hg : g < n) (hn : n < 4) {p q : Int32} (hp : is_b p) (hq : is_b q) : ∃ x : Nat, x < 256 ∧ gf_d g (nI x) ^^^ gf_d n (p ^^^ nI x) = q ∧ ∀ y : Nat, y < 256 → gf_d g (nI y) ^^^ gf_d n (p ^^^ nI y) = q → y = x := by
  obtain ⟨c, hc, rfl⟩ := hq
  obtain ⟨d, hd, rfl⟩ := hp
  obtain ⟨e, he⟩ := pi_two hg hn
  have key : ∀ y : Nat, y < 256 → gf_d g (nI y) ^^^ gf_d n (nI d ^^^ nI y) = nI ((gf_m g y ^^^ gf_m n y) ^^^ gf_m n d) := by
    intro y hy
    rw [nx_xor, gf_dn g y hy, gf_dn n _ (Nat.xor_lt_two_pow (n := 8) hd hy), nx_xor, gf_mx n hd hy]
    congr 1
    ac_rfl
  have hd' := gf_mb n d hd
  have hcd : c ^^^ gf_m n d < 256 := Nat.xor_lt_two_pow (n := 8) hc hd'
  obtain ⟨h1, h2, _⟩ := he _ hcd
  refine ⟨pi_m e (c ^^^ gf_m n d), h1, ?_, fun y hy ey => ?_⟩
  · rw [key _ h1, h2, Nat.xor_assoc, Nat.xor_self, Nat.xor_zero]
  · rw [key y hy] at ey
    have hb : (gf_m g y ^^^ gf_m n y) ^^^ gf_m n d < 256 := Nat.xor_lt_two_pow (n := 8) (Nat.xor_lt_two_pow (n := 8) (gf_mb g y hy) (gf_mb n y hy)) hd'
    have ec := (nI_eq (by omega) (by omega)).mp ey
    rw [← ec, Nat.xor_assoc, Nat.xor_self, Nat.xor_zero]
    exact (he y hy).2.2.symm
theorem gf_d0 (k : Nat) : gf_d k 0 = 0 := by
  induction k with
  | zero => rfl
  | succ k ih => exact ih
/-- the sum of the data bytes, the sum of their products -/
def sm_D (a : Nat → Int32) : Int32 := ((a 0 ^^^ a 1) ^^^ a 2) ^^^ a 3
def sm_P (a : Nat → Int32) : Int32 := (((0 ^^^ gf_d 0 (a 0)) ^^^ gf_d 1 (a 1)) ^^^ gf_d 2 (a 2)) ^^^ gf_d 3 (a 3)
theorem sm_Du {a : Nat → Int32} {k : Nat} {x : Int32} (hk : k < 4) (h : a k = 0) : sm_D (upd a k x) = x ^^^ sm_D a := by
  match k, hk with
  | 0, _ => simp only [sm_D, upd, h, if_true, if_neg (by decide : ¬ (1 : Nat) = 0), if_neg (by decide : ¬ (2 : Nat) = 0), if_neg (by decide : ¬ (3 : Nat) = 0), Int32.zero_xor]; ac_rfl
  | 1, _ => simp only [sm_D, upd, h, if_true, if_neg (by decide : ¬ (0 : Nat) = 1), if_neg (by decide : ¬ (2 : Nat) = 1), if_neg (by decide : ¬ (3 : Nat) = 1), Int32.xor_zero]; ac_rfl
  | 2, _ => simp only [sm_D, upd, h, if_true, if_neg (by decide : ¬ (0 : Nat) = 2), if_neg (by decide : ¬ (1 : Nat) = 2), if_neg (by decide : ¬ (3 : Nat) = 2), Int32.xor_zero]; ac_rfl
  | 3, _ => simp only [sm_D, upd, h, if_true, if_neg (by decide : ¬ (0 : Nat) = 3), if_neg (by decide : ¬ (1 : Nat) = 3), if_neg (by decide : ¬ (2 : Nat) = 3), Int32.xor_zero]; ac_rfl
theorem sm_Pu {a : Nat → Int32} {k : Nat} {x : Int32} (hk : k < 4) (h : a k = 0) : sm_P (upd a k x) = gf_d k x ^^^ sm_P a := by
  match k, hk with
  | 0, _ => simp only [sm_P, upd, h, gf_d0, if_true, if_neg (by decide : ¬ (1 : Nat) = 0), if_neg (by decide : ¬ (2 : Nat) = 0), if_neg (by decide : ¬ (3 : Nat) = 0), Int32.zero_xor, Int32.xor_zero]; ac_rfl
  | 1, _ => simp only [sm_P, upd, h, gf_d0, if_true, if_neg (by decide : ¬ (0 : Nat) = 1), if_neg (by decide : ¬ (2 : Nat) = 1), if_neg (by decide : ¬ (3 : Nat) = 1), Int32.zero_xor, Int32.xor_zero]; ac_rfl
  | 2, _ => simp only [sm_P, upd, h, gf_d0, if_true, if_neg (by decide : ¬ (0 : Nat) = 2), if_neg (by decide : ¬ (1 : Nat) = 2), if_neg (by decide : ¬ (3 : Nat) = 2), Int32.zero_xor, Int32.xor_zero]; ac_rfl
  | 3, _ => simp only [sm_P, upd, h, gf_d0, if_true, if_neg (by decide : ¬ (0 : Nat) = 3), if_neg (by decide : ¬ (1 : Nat) = 3), if_neg (by decide : ¬ (2 : Nat) = 3), Int32.zero_xor, Int32.xor_zero]; ac_rfl
/-- alike in the six seats -/
def ag_6 (a b : Nat → Int32) : Prop := ∀ j : Nat, j < 6 → a j = b j
theorem ag_D {a b : Nat → Int32} (h : ag_6 a b) : sm_D a = sm_D b := by
  unfold sm_D
  rw [h 0 (by decide), h 1 (by decide), h 2 (by decide), h 3 (by decide)]
theorem ag_P {a b : Nat → Int32} (h : ag_6 a b) : sm_P a = sm_P b := by
  unfold sm_P
  rw [h 0 (by decide), h 1 (by decide), h 2 (by decide), h 3 (by decide)]
theorem ag_u {a b : Nat → Int32} {k : Nat} {x y : Int32} (h : ag_6 a b) (e : x = y) : ag_6 (upd a k x) (upd b k y) := by
  intro j hj
  unfold upd
  by_cases c : j = k
  · rw [if_pos c, if_pos c, e]
  · rw [if_neg c, if_neg c, h j hj]
/-- the two parities, where their bytes are not there -/
def fn_1 (tP : Int32) (a : Nat → Int32) : Nat → Int32 := if tP = 0 then upd a 4 (sm_D a) else a
def fn_2 (tQ : Int32) (a : Nat → Int32) : Nat → Int32 := if tQ = 0 then upd a 5 (sm_P a) else a
theorem ag_f1 {a b : Nat → Int32} {t : Int32} (h : ag_6 a b) : ag_6 (fn_1 t a) (fn_1 t b) := by
  unfold fn_1
  by_cases c : t = 0
  · rw [if_pos c, if_pos c]; exact ag_u h (ag_D h)
  · rw [if_neg c, if_neg c]; exact h
theorem ag_f2 {a b : Nat → Int32} {t : Int32} (h : ag_6 a b) : ag_6 (fn_2 t a) (fn_2 t b) := by
  unfold fn_2
  by_cases c : t = 0
  · rw [if_pos c, if_pos c]; exact ag_u h (ag_P h)
  · rw [if_neg c, if_neg c]; exact h
def by_6 (a : Nat → Int32) : Prop := ∀ j : Nat, j < 6 → is_b (a j)
theorem by_D {a : Nat → Int32} (h : by_6 a) : is_b (sm_D a) :=
  is_bx (is_bx (is_bx (h 0 (by decide)) (h 1 (by decide))) (h 2 (by decide))) (h 3 (by decide))
theorem by_P {a : Nat → Int32} (h : by_6 a) : is_b (sm_P a) :=
  is_bx (is_bx (is_bx (is_bx is_b0 (is_bp 0 (h 0 (by decide)))) (is_bp 1 (h 1 (by decide)))) (is_bp 2 (h 2 (by decide)))) (is_bp 3 (h 3 (by decide)))
theorem by_u {a : Nat → Int32} {k : Nat} {x : Int32} (h : by_6 a) (hx : is_b x) : by_6 (upd a k x) := by
  intro j hj
  unfold upd
  by_cases c : j = k
  · rw [if_pos c]; exact hx
  · rw [if_neg c]; exact h j hj
theorem by_f1 {a : Nat → Int32} {t : Int32} (h : by_6 a) : by_6 (fn_1 t a) := by
  unfold fn_1
  by_cases c : t = 0
  · rw [if_pos c]; exact by_u h (by_D h)
  · rw [if_neg c]; exact h
theorem by_f2 {a : Nat → Int32} {t : Int32} (h : by_6 a) : by_6 (fn_2 t a) := by
  unfold fn_2
  by_cases c : t = 0
  · rw [if_pos c]; exact by_u h (by_P h)
  · rw [if_neg c]; exact h
theorem xo_r (S T w : Int32) : T ^^^ S = w ↔ T = w ^^^ S := by
  constructor
  · intro h; rw [← h, Int32.xor_assoc, Int32.xor_self, Int32.xor_zero]
  · intro h; rw [h, Int32.xor_assoc, Int32.xor_self, Int32.xor_zero]
end
