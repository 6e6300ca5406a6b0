section
section
theorem pk_us {f : Nat → Int32} {k : Nat} {x : Int32} : upd f k x k = x := if_pos rfl
theorem pk_un {f : Nat → Int32} {k j : Nat} {x : Int32} (h : j ≠ k) : upd f k x j = f j := if_neg h
theorem pk_sub {a b : Nat} (h : b ≤ a) : nI a - nI b = nI (a - b) := by
  obtain ⟨c, rfl⟩ : ∃ c, a = c + b := ⟨a - b, by omega⟩
  rw [← nI_add, Int32.add_sub_cancel, Nat.add_sub_cancel]
theorem pk_m1 (n : Nat) : nI (n + 1) + (-1) = nI n := by
  rw [← nI_1, Int32.add_assoc, show (1 : Int32) + (-1) = 0 from rfl, Int32.add_zero]
theorem pk_mul (a b : Nat) : nI a * nI b = nI (a * b) := (Int32.ofNat_mul a b).symm
theorem pk_div {a d : Nat} (ha : a < 2 ^ 31) (h0 : 0 < d) (hd : d < 2 ^ 31) : nI a / nI d = nI (a / d) := by
  apply Int32.toInt_inj.mp
  rw [lg_idiv_nonneg (by rw [nI_toInt ha]; omega) (by rw [nI_toInt hd]; omega), nI_toInt ha, nI_toInt hd, nI_toInt (Nat.lt_of_le_of_lt (Nat.div_le_self a d) ha)]
  first | rfl | exact (Int.natCast_ediv _ _).symm
theorem pk_rem {a d : Nat} (ha : a < 2 ^ 31) (h0 : 0 < d) (hd : d < 2 ^ 31) : nI a - nI a / nI d * nI d = nI (a % d) := by
  rw [pk_div ha h0 hd, pk_mul, pk_sub (Nat.div_mul_le_self a d)]
  exact congrArg nI (by have := Nat.div_add_mod' a d; omega)
theorem pk_ix (x : Int32) {n : Nat} (hn : n < 2 ^ 31) : x < 0 ∨ nI n ≤ x ∨ ∃ j : Nat, j < n ∧ x = nI j := by
  by_cases h : x < 0
  · exact Or.inl h
  · obtain ⟨j, hj, rfl⟩ := nI_of h
    by_cases h2 : j < n
    · exact Or.inr (Or.inr ⟨j, h2, rfl⟩)
    · exact Or.inr (Or.inl (nI_le (by omega) hj))
theorem pk_le {x y : Int32} {A B : Prop} (a b : Nat) (f : a ≤ b → A) (g : b < a → B) (hx : x = nI a := by rfl) (hy : y = nI b := by rfl) (ha : a < 2 ^ 31 := by omega) (hb : b < 2 ^ 31 := by omega) : (x ≤ y → A) ∧ (¬ x ≤ y → B) := by
  subst hx hy
  rw [nI_leI ha hb]
  exact ⟨f, fun z => g (by omega)⟩
theorem pk_lt {x y : Int32} {A B : Prop} (a b : Nat) (f : a < b → A) (g : b ≤ a → B) (hx : x = nI a := by rfl) (hy : y = nI b := by rfl) (ha : a < 2 ^ 31 := by omega) (hb : b < 2 ^ 31 := by omega) : (x < y → A) ∧ (¬ x < y → B) := by
  subst hx hy
  rw [nI_ltI ha hb]
  exact ⟨f, fun z => g (by omega)⟩
theorem pk_eq {x y : Int32} {A B : Prop} (a b : Nat) (f : a = b → A) (g : a ≠ b → B) (hx : x = nI a := by rfl) (hy : y = nI b := by rfl) (ha : a < 2 ^ 31 := by omega) (hb : b < 2 ^ 31 := by omega) : (x = y → A) ∧ (¬ x = y → B) := by
  subst hx hy
  rw [nI_eq ha hb]
  exact ⟨f, g⟩
theorem pk_in {x : Int32} (n N : Nat) (h : n < N) (hx : x = nI n := by rfl) (hN : N < 2 ^ 31 := by omega) : vp_in x N := by
  subst hx
  exact vp_in_nI h hN
theorem pk_cl {x : Int32} (n : Nat) (hx : x = nI n := by rfl) (h : n < 2 ^ 31 := by omega) : x.toNatClampNeg = n := by
  subst hx
  exact nI_clamp h
theorem pk_tn {n : Nat} (h : n < 2 ^ 32) : (nI n).toBitVec.toNat = n := Nat.mod_eq_of_lt h
theorem pk_and (x : Int32) {m : Int32} (k : Nat) (hm : m.toBitVec.toNat = 2 ^ k - 1) : x &&& m = nI (x.toBitVec.toNat % 2 ^ k) := by
  apply Int32.toBitVec_inj.mp
  apply BitVec.eq_of_toNat_eq
  rw [Int32.toBitVec_and, BitVec.toNat_and, hm, Nat.and_two_pow_sub_one_eq_mod]
  show _ = (BitVec.ofNat 32 _).toNat
  rw [BitVec.toNat_ofNat]
  exact (Nat.mod_eq_of_lt (Nat.lt_of_le_of_lt (Nat.mod_le _ _) x.toBitVec.isLt)).symm
theorem pk_andE (x : Int32) {m : Int32} (k : Nat) (hm : m.toBitVec.toNat = 2 ^ k - 1) : ∃ j : Nat, j < 2 ^ k ∧ x &&& m = nI j := ⟨_, Nat.mod_lt _ (Nat.two_pow_pos k), pk_and x k hm⟩
theorem pk_shl (a s : Int32) (k : Nat) (hs : (s.toBitVec.smod 32).toNat = k) : (a <<< s).toBitVec.toNat = a.toBitVec.toNat * 2 ^ k % 2 ^ 32 := by
  show (a.toBitVec <<< (s.toBitVec.smod 32).toNat).toNat = _
  rw [hs, BitVec.toNat_shiftLeft, Nat.shiftLeft_eq]
theorem nx_xor (a b : Nat) : nI a ^^^ nI b = nI (a ^^^ b) := by
  apply Int32.toBitVec_inj.1
  show BitVec.ofNat 32 a ^^^ BitVec.ofNat 32 b = BitVec.ofNat 32 (a ^^^ b)
  apply BitVec.eq_of_getLsbD_eq
  intro i hi
  simp [hi]
/-! own: numbers -/
theorem rb_eq0 {a : Nat} (h : a < 2 ^ 31) : nI a = 0 ↔ a = 0 := by
  rw [← nI_0, nI_eq h (by omega)]
theorem rb_le0 {a : Nat} (h : a < 2 ^ 31) : nI a ≤ 0 ↔ a = 0 := by
  rw [← nI_0, nI_leI h (by omega)]; omega
theorem rb_n1lt : (-1 : Int32) < 0 := by decide
theorem rb_n1le : ¬ (0 : Int32) ≤ -1 := by decide
theorem rb_ne1 {a : Nat} (h : a < 2 ^ 31) : ¬ nI a = -1 := by
  intro e
  have := nI_pos (n := a) h
  rw [e] at this
  exact this rb_n1lt
theorem rb_4 : ¬ (4 : Int32) = 0 := by decide
theorem rb_6 : ¬ (6 : Int32) = 0 := by decide
theorem rb_16 : ¬ (16 : Int32) = 0 := by decide
theorem rb_20 : ¬ (20 : Int32) = 0 := by decide
theorem rb_d4 {b : Nat} (h : b < 2 ^ 31) : nI b / 4 = nI (b / 4) := pk_div (d := 4) h (by decide) (by decide)
theorem rb_r4 {b : Nat} (h : b < 2 ^ 31) : nI b - nI b / 4 * 4 = nI (b % 4) := pk_rem (d := 4) h (by decide) (by decide)
theorem rb_d20 {b : Nat} (h : b < 2 ^ 31) : nI b / 20 = nI (b / 20) := pk_div (d := 20) h (by decide) (by decide)
theorem rb_r6 {b : Nat} (h : b < 2 ^ 31) : nI b - nI b / 6 * 6 = nI (b % 6) := pk_rem (d := 6) h (by decide) (by decide)
theorem rb_r16 {b : Nat} (h : b < 2 ^ 31) : nI b - nI b / 16 * 16 = nI (b % 16) := pk_rem (d := 16) h (by decide) (by decide)
theorem rb_dk {s k : Nat} (hs : s < 1000) (hk : k < 1000) : (nI s + nI k) - (nI s + nI k) / 6 * 6 = nI ((s + k) % 6) := by
  rw [nI_add, rb_r6 (by omega)]
theorem rb_cell (d s : Nat) : (nI d * 16) + nI s = nI (d * 16 + s) := by
  rw [show (16 : Int32) = nI 16 from rfl, pk_mul, nI_add]
theorem rb_cell' (d s : Nat) : (16 * nI d) + nI s = nI (d * 16 + s) := by
  rw [show (16 : Int32) = nI 16 from rfl, pk_mul, nI_add, Nat.mul_comm]
theorem rb_slot (v l : Nat) : (nI v * 20) + nI l = nI (v * 20 + l) := by
  rw [show (20 : Int32) = nI 20 from rfl, pk_mul, nI_add]
theorem rb_slot' (v l : Nat) : (20 * nI v) + nI l = nI (v * 20 + l) := by
  rw [show (20 : Int32) = nI 20 from rfl, pk_mul, nI_add, Nat.mul_comm]
theorem rb_shl (x : Int32) : x <<< ((1 : Int32) &&& 31) = 2 * x := by
  apply Int32.toBitVec_inj.mp
  apply BitVec.eq_of_toNat_eq
  rw [pk_shl _ _ 1 (by decide), Int32.toBitVec_mul, BitVec.toNat_mul, show (2 : Int32).toBitVec.toNat = 2 from rfl, Nat.mul_comm]
theorem rb_vb0 : vp_nar .boolean 0 = 0 := by decide
theorem rb_vb1 : vp_nar .boolean 1 = 1 := by decide
theorem rb_uu {f : Nat → Int32} {k : Nat} {x y : Int32} : upd (upd f k x) k y = upd f k y := by
  funext j
  unfold upd
  by_cases h : j = k
  · rw [if_pos h, if_pos h]
  · rw [if_neg h, if_neg h, if_neg h]
theorem rb_ui {f : Nat → Int32} {k : Nat} : upd f k (f k) = f := by
  funext j
  unfold upd
  by_cases h : j = k
  · rw [if_pos h, h]
  · rw [if_neg h]
theorem rb_uc {f : Nat → Int32} {k l : Nat} {x y : Int32} (h : k ≠ l) : upd (upd f k x) l y = upd (upd f l y) k x := by
  funext j
  unfold upd
  by_cases a : j = l
  · rw [if_pos a, if_neg (by omega), if_pos a]
  · rw [if_neg a]
    by_cases b : j = k
    · rw [if_pos b, if_pos b]
    · rw [if_neg b, if_neg b, if_neg a]
theorem rb_at {P : Int32 → Prop} {x y : Int32} (e : x = y) (h : P y) : P x := e ▸ h
end
end
section
section
/-! bytes, and the products of the document's field, over naturals and over ints -/
def is_b (x : Int32) : Prop := ∃ n : Nat, n < 256 ∧ x = nI n
theorem is_b0 : is_b 0 := ⟨0, by decide, rfl⟩
theorem is_bx {x y : Int32} (hx : is_b x) (hy : is_b y) : is_b (x ^^^ y) := by
  obtain ⟨a, ha, rfl⟩ := hx
  obtain ⟨b, hb, rfl⟩ := hy
  exact ⟨a ^^^ b, Nat.xor_lt_two_pow (n := 8) ha hb, nx_xor a b⟩
theorem is_ba (x : Int32) : is_b (x &&& 255) := by
  obtain ⟨j, hj, e⟩ := pk_andE x (m := 255) 8 (by decide)
  exact ⟨j, hj, e⟩
def gf_s (x : Int32) : Int32 := if 2 * x < 256 then 2 * x else 2 * x ^^^ 285
def gf_d : Nat → Int32 → Int32
  | 0, x => x
  | k + 1, x => gf_d k (gf_s x)
def gf_n (a : Nat) : Nat := if 2 * a < 256 then 2 * a else 2 * a ^^^ 285
def gf_m : Nat → Nat → Nat
  | 0, a => a
  | k + 1, a => gf_m k (gf_n a)
theorem gf_nb : ∀ a : Nat, a < 256 → gf_n a < 256 := by decide +kernel
theorem gf_mb : ∀ (k a : Nat), a < 256 → gf_m k a < 256 := by
  intro k
  induction k with
  | zero => intro a h; exact h
  | succ k ih => intro a h; exact ih _ (gf_nb a h)
theorem gf_sn {a : Nat} (h : a < 256) : gf_s (nI a) = nI (gf_n a) := by
  unfold gf_s gf_n
  have e : (2 : Int32) * nI a = nI (2 * a) := pk_mul 2 a
  rw [e]
  by_cases c : 2 * a < 256
  · have h1 : nI (2 * a) < 256 := nI_lt (b := 256) c (by decide)
    rw [if_pos c, if_pos h1]
  · have h1 : ¬ nI (2 * a) < 256 := nI_nlt (a := 2 * a) (b := 256) (by omega) (by omega)
    rw [if_neg c, if_neg h1]
    exact nx_xor (2 * a) 285
theorem gf_dn : ∀ (k a : Nat), a < 256 → gf_d k (nI a) = nI (gf_m k a) := by
  intro k
  induction k with
  | zero => intro a _; rfl
  | succ k ih =>
    intro a h
    show gf_d k (gf_s (nI a)) = nI (gf_m k (gf_n a))
    rw [gf_sn h]
    exact ih _ (gf_nb a h)
theorem is_bp {x : Int32} (k : Nat) (hx : is_b x) : is_b (gf_d k x) := by
  obtain ⟨a, ha, rfl⟩ := hx
  exact ⟨gf_m k a, gf_mb k a ha, gf_dn k a ha⟩
theorem gf_nt : ∀ a : Nat, a < 256 → gf_n a = 2 * a ^^^ (if a.testBit 7 then 285 else 0) := by decide +kernel
theorem gf_nx {a b : Nat} (ha : a < 256) (hb : b < 256) : gf_n (a ^^^ b) = gf_n a ^^^ gf_n b := by
  rw [gf_nt a ha, gf_nt b hb, gf_nt (a ^^^ b) (Nat.xor_lt_two_pow (n := 8) ha hb), Nat.testBit_xor]
  have e : 2 * (a ^^^ b) = 2 * a ^^^ 2 * b := by
    have := Nat.shiftLeft_xor_distrib (a := a) (b := b) (i := 1)
    simp only [Nat.shiftLeft_eq, Nat.pow_one] at this
    rw [Nat.mul_comm 2, Nat.mul_comm 2 a, Nat.mul_comm 2 b]
    exact this
  rw [e]
  cases a.testBit 7 <;> cases b.testBit 7 <;> simp only [Bool.xor_true, Bool.xor_false, Bool.not_true, Bool.not_false, Bool.false_eq_true, if_true, if_false, Nat.xor_zero]
  · ac_rfl
  · ac_rfl
  · rw [show 2 * a ^^^ 285 ^^^ (2 * b ^^^ 285) = (2 * a ^^^ 2 * b) ^^^ (285 ^^^ 285) by ac_rfl, Nat.xor_self, Nat.xor_zero]
theorem gf_mx : ∀ (k : Nat) {a b : Nat}, a < 256 → b < 256 → gf_m k (a ^^^ b) = gf_m k a ^^^ gf_m k b := by
  intro k
  induction k with
  | zero => intro a b _ _; rfl
  | succ k ih =>
    intro a b ha hb
    show gf_m k (gf_n (a ^^^ b)) = gf_m k (gf_n a) ^^^ gf_m k (gf_n b)
    rw [gf_nx ha hb]
    exact ih (gf_nb a ha) (gf_nb b hb)
/-- the product of e and a, by the digits of e -/
def pi_m (e a : Nat) : Nat := (if e.testBit 0 then gf_m 0 a else 0) ^^^ (if e.testBit 1 then gf_m 1 a else 0) ^^^ (if e.testBit 2 then gf_m 2 a else 0) ^^^ (if e.testBit 3 then gf_m 3 a else 0) ^^^ (if e.testBit 4 then gf_m 4 a else 0) ^^^ (if e.testBit 5 then gf_m 5 a else 0) ^^^ (if e.testBit 6 then gf_m 6 a else 0) ^^^ (if e.testBit 7 then gf_m 7 a else 0)
theorem pi_0 : ∀ a : Nat, a < 256 → pi_m 1 a < 256 ∧ gf_m 0 (pi_m 1 a) = a ∧ pi_m 1 (gf_m 0 a) = a := by decide +kernel
theorem pi_1 : ∀ a : Nat, a < 256 → pi_m 142 a < 256 ∧ gf_m 1 (pi_m 142 a) = a ∧ pi_m 142 (gf_m 1 a) = a := by decide +kernel
theorem pi_2 : ∀ a : Nat, a < 256 → pi_m 71 a < 256 ∧ gf_m 2 (pi_m 71 a) = a ∧ pi_m 71 (gf_m 2 a) = a := by decide +kernel
theorem pi_3 : ∀ a : Nat, a < 256 → pi_m 173 a < 256 ∧ gf_m 3 (pi_m 173 a) = a ∧ pi_m 173 (gf_m 3 a) = a := by decide +kernel
theorem pi_01 : ∀ a : Nat, a < 256 → pi_m 244 a < 256 ∧ gf_m 0 (pi_m 244 a) ^^^ gf_m 1 (pi_m 244 a) = a ∧ pi_m 244 (gf_m 0 a ^^^ gf_m 1 a) = a := by decide +kernel
theorem pi_02 : ∀ a : Nat, a < 256 → pi_m 167 a < 256 ∧ gf_m 0 (pi_m 167 a) ^^^ gf_m 2 (pi_m 167 a) = a ∧ pi_m 167 (gf_m 0 a ^^^ gf_m 2 a) = a := by decide +kernel
theorem pi_03 : ∀ a : Nat, a < 256 → pi_m 157 a < 256 ∧ gf_m 0 (pi_m 157 a) ^^^ gf_m 3 (pi_m 157 a) = a ∧ pi_m 157 (gf_m 0 a ^^^ gf_m 3 a) = a := by decide +kernel
theorem pi_12 : ∀ a : Nat, a < 256 → pi_m 122 a < 256 ∧ gf_m 1 (pi_m 122 a) ^^^ gf_m 2 (pi_m 122 a) = a ∧ pi_m 122 (gf_m 1 a ^^^ gf_m 2 a) = a := by decide +kernel
theorem pi_13 : ∀ a : Nat, a < 256 → pi_m 221 a < 256 ∧ gf_m 1 (pi_m 221 a) ^^^ gf_m 3 (pi_m 221 a) = a ∧ pi_m 221 (gf_m 1 a ^^^ gf_m 3 a) = a := by decide +kernel
theorem pi_23 : ∀ a : Nat, a < 256 → pi_m 61 a < 256 ∧ gf_m 2 (pi_m 61 a) ^^^ gf_m 3 (pi_m 61 a) = a ∧ pi_m 61 (gf_m 2 a ^^^ gf_m 3 a) = a := by decide +kernel
theorem pi_one {k : Nat} (hk : k < 4) : ∃ e : Nat, ∀ a : Nat, a < 256 → pi_m e a < 256 ∧ gf_m k (pi_m e a) = a ∧ pi_m e (gf_m k a) = a := by
  match k, hk with
  | 0, _ => exact ⟨_, pi_0⟩
  | 1, _ => exact ⟨_, pi_1⟩
  | 2, _ => exact ⟨_, pi_2⟩
  | 3, _ => exact ⟨_, pi_3⟩
theorem pi_two {g n : Nat} (hg : g < n) (hn : n < 4) : ∃ e : Nat, ∀ a : Nat, a < 256 → pi_m e a < 256 ∧ gf_m g (pi_m e a) ^^^ gf_m n (pi_m e a) = a ∧ pi_m e (gf_m g a ^^^ gf_m n a) = a := by
  have h : (g = 0 ∧ n = 1) ∨ (g = 0 ∧ n = 2) ∨ (g = 0 ∧ n = 3) ∨ (g = 1 ∧ n = 2) ∨ (g = 1 ∧ n = 3) ∨ (g = 2 ∧ n = 3) := by omega
  rcases h with ⟨rfl, rfl⟩ | ⟨rfl, rfl⟩ | ⟨rfl, rfl⟩ | ⟨rfl, rfl⟩ | ⟨rfl, rfl⟩ | ⟨rfl, rfl⟩
  · exact ⟨_, pi_01⟩
  · exact ⟨_, pi_02⟩
  · exact ⟨_, pi_03⟩
  · exact ⟨_, pi_12⟩
  · exact ⟨_, pi_13⟩
  · exact ⟨_, pi_23⟩
/-- one byte makes the product right -/
theorem sol_1 {k : Nat} (hk : k < 4) {q : Int32} (hq : is_b q) : ∃ x : Nat, x < 256 ∧ gf_d k (nI x) = q ∧ ∀ y : Nat, y < 256 → gf_d k (nI y) = q → y = x := by
  obtain ⟨c, hc, rfl⟩ := hq
  obtain ⟨e, he⟩ := pi_one hk
  obtain ⟨h1, h2, _⟩ := he c hc
  refine ⟨pi_m e c, h1, by rw [gf_dn k _ h1, h2], fun y hy ey => ?_⟩
  rw [gf_dn k y hy] at ey
  have hb := gf_mb k y hy
  have := (nI_eq (by omega) (by omega)).mp ey
  rw [← this]
  exact (he y hy).2.2.symm
/-- one byte of a pair with a given sum makes the products right -/
theorem sol_2 {g n : Nat} (hg : g < n) (hn : n < 4) {p q : Int32} (hp : is_b p) (hq : is_b q) : ∃ x : Nat, x < 256 ∧ gf_d g (nI x) ^^^ gf_d n (p ^^^ nI x) = q ∧ ∀ y : Nat, y < 256 → gf_d g (nI y) ^^^ gf_d n (p ^^^ nI y) = q → y = x := by
  obtain ⟨c, hc, rfl⟩ := hq
  obtain ⟨d, hd, rfl⟩ := hp
  obtain ⟨e, he⟩ := pi_two hg hn
  have key : ∀ y : Nat, y < 256 → gf_d g (nI y) ^^^ gf_d n (nI d ^^^ nI y) = nI ((gf_m g y ^^^ gf_m n y) ^^^ gf_m n d) := by
    intro y hy
    rw [nx_xor, gf_dn g y hy, gf_dn n _ (Nat.xor_lt_two_pow (n := 8) hd hy), nx_xor, gf_mx n hd hy]
    congr 1
    ac_rfl
  have hd' := gf_mb n d hd
  have hcd : c ^^^ gf_m n d < 256 := Nat.xor_lt_two_pow (n := 8) hc hd'
  obtain ⟨h1, h2, _⟩ := he _ hcd
  refine ⟨pi_m e (c ^^^ gf_m n d), h1, ?_, fun y hy ey => ?_⟩
  · rw [key _ h1, h2, Nat.xor_assoc, Nat.xor_self, Nat.xor_zero]
  · rw [key y hy] at ey
    have hb : (gf_m g y ^^^ gf_m n y) ^^^ gf_m n d < 256 := Nat.xor_lt_two_pow (n := 8) (Nat.xor_lt_two_pow (n := 8) (gf_mb g y hy) (gf_mb n y hy)) hd'
    have ec := (nI_eq (by omega) (by omega)).mp ey
    rw [← ec, Nat.xor_assoc, Nat.xor_self, Nat.xor_zero]
    exact (he y hy).2.2.symm
theorem gf_d0 (k : Nat) : gf_d k 0 = 0 := by
  induction k with
  | zero => rfl
  | succ k ih => exact ih
/-- the sum of the data bytes, the sum of their products -/
def sm_D (a : Nat → Int32) : Int32 := ((a 0 ^^^ a 1) ^^^ a 2) ^^^ a 3
def sm_P (a : Nat → Int32) : Int32 := (((0 ^^^ gf_d 0 (a 0)) ^^^ gf_d 1 (a 1)) ^^^ gf_d 2 (a 2)) ^^^ gf_d 3 (a 3)
theorem sm_Du {a : Nat → Int32} {k : Nat} {x : Int32} (hk : k < 4) (h : a k = 0) : sm_D (upd a k x) = x ^^^ sm_D a := by
  match k, hk with
  | 0, _ => simp only [sm_D, upd, h, if_true, if_neg (by decide : ¬ (1 : Nat) = 0), if_neg (by decide : ¬ (2 : Nat) = 0), if_neg (by decide : ¬ (3 : Nat) = 0), Int32.zero_xor]; ac_rfl
  | 1, _ => simp only [sm_D, upd, h, if_true, if_neg (by decide : ¬ (0 : Nat) = 1), if_neg (by decide : ¬ (2 : Nat) = 1), if_neg (by decide : ¬ (3 : Nat) = 1), Int32.xor_zero]; ac_rfl
  | 2, _ => simp only [sm_D, upd, h, if_true, if_neg (by decide : ¬ (0 : Nat) = 2), if_neg (by decide : ¬ (1 : Nat) = 2), if_neg (by decide : ¬ (3 : Nat) = 2), Int32.xor_zero]; ac_rfl
  | 3, _ => simp only [sm_D, upd, h, if_true, if_neg (by decide : ¬ (0 : Nat) = 3), if_neg (by decide : ¬ (1 : Nat) = 3), if_neg (by decide : ¬ (2 : Nat) = 3), Int32.xor_zero]; ac_rfl
theorem sm_Pu {a : Nat → Int32} {k : Nat} {x : Int32} (hk : k < 4) (h : a k = 0) : sm_P (upd a k x) = gf_d k x ^^^ sm_P a := by
  match k, hk with
  | 0, _ => simp only [sm_P, upd, h, gf_d0, if_true, if_neg (by decide : ¬ (1 : Nat) = 0), if_neg (by decide : ¬ (2 : Nat) = 0), if_neg (by decide : ¬ (3 : Nat) = 0), Int32.zero_xor, Int32.xor_zero]; ac_rfl
  | 1, _ => simp only [sm_P, upd, h, gf_d0, if_true, if_neg (by decide : ¬ (0 : Nat) = 1), if_neg (by decide : ¬ (2 : Nat) = 1), if_neg (by decide : ¬ (3 : Nat) = 1), Int32.zero_xor, Int32.xor_zero]; ac_rfl
  | 2, _ => simp only [sm_P, upd, h, gf_d0, if_true, if_neg (by decide : ¬ (0 : Nat) = 2), if_neg (by decide : ¬ (1 : Nat) = 2), if_neg (by decide : ¬ (3 : Nat) = 2), Int32.zero_xor, Int32.xor_zero]; ac_rfl
  | 3, _ => simp only [sm_P, upd, h, gf_d0, if_true, if_neg (by decide : ¬ (0 : Nat) = 3), if_neg (by decide : ¬ (1 : Nat) = 3), if_neg (by decide : ¬ (2 : Nat) = 3), Int32.zero_xor, Int32.xor_zero]; ac_rfl
/-- alike in the six seats -/
def ag_6 (a b : Nat → Int32) : Prop := ∀ j : Nat, j < 6 → a j = b j
theorem ag_D {a b : Nat → Int32} (h : ag_6 a b) : sm_D a = sm_D b := by
  unfold sm_D
  rw [h 0 (by decide), h 1 (by decide), h 2 (by decide), h 3 (by decide)]
theorem ag_P {a b : Nat → Int32} (h : ag_6 a b) : sm_P a = sm_P b := by
  unfold sm_P
  rw [h 0 (by decide), h 1 (by decide), h 2 (by decide), h 3 (by decide)]
theorem ag_u {a b : Nat → Int32} {k : Nat} {x y : Int32} (h : ag_6 a b) (e : x = y) : ag_6 (upd a k x) (upd b k y) := by
  intro j hj
  unfold upd
  by_cases c : j = k
  · rw [if_pos c, if_pos c, e]
  · rw [if_neg c, if_neg c, h j hj]
/-- the two parities, where their bytes are not there -/
def fn_1 (tP : Int32) (a : Nat → Int32) : Nat → Int32 := if tP = 0 then upd a 4 (sm_D a) else a
def fn_2 (tQ : Int32) (a : Nat → Int32) : Nat → Int32 := if tQ = 0 then upd a 5 (sm_P a) else a
theorem ag_f1 {a b : Nat → Int32} {t : Int32} (h : ag_6 a b) : ag_6 (fn_1 t a) (fn_1 t b) := by
  unfold fn_1
  by_cases c : t = 0
  · rw [if_pos c, if_pos c]; exact ag_u h (ag_D h)
  · rw [if_neg c, if_neg c]; exact h
theorem ag_f2 {a b : Nat → Int32} {t : Int32} (h : ag_6 a b) : ag_6 (fn_2 t a) (fn_2 t b) := by
  unfold fn_2
  by_cases c : t = 0
  · rw [if_pos c, if_pos c]; exact ag_u h (ag_P h)
  · rw [if_neg c, if_neg c]; exact h
def by_6 (a : Nat → Int32) : Prop := ∀ j : Nat, j < 6 → is_b (a j)
theorem by_D {a : Nat → Int32} (h : by_6 a) : is_b (sm_D a) :=
  is_bx (is_bx (is_bx (h 0 (by decide)) (h 1 (by decide))) (h 2 (by decide))) (h 3 (by decide))
theorem by_P {a : Nat → Int32} (h : by_6 a) : is_b (sm_P a) :=
  is_bx (is_bx (is_bx (is_bx is_b0 (is_bp 0 (h 0 (by decide)))) (is_bp 1 (h 1 (by decide)))) (is_bp 2 (h 2 (by decide)))) (is_bp 3 (h 3 (by decide)))
theorem by_u {a : Nat → Int32} {k : Nat} {x : Int32} (h : by_6 a) (hx : is_b x) : by_6 (upd a k x) := by
  intro j hj
  unfold upd
  by_cases c : j = k
  · rw [if_pos c]; exact hx
  · rw [if_neg c]; exact h j hj
theorem by_f1 {a : Nat → Int32} {t : Int32} (h : by_6 a) : by_6 (fn_1 t a) := by
  unfold fn_1
  by_cases c : t = 0
  · rw [if_pos c]; exact by_u h (by_D h)
  · rw [if_neg c]; exact h
theorem by_f2 {a : Nat → Int32} {t : Int32} (h : by_6 a) : by_6 (fn_2 t a) := by
  unfold fn_2
  by_cases c : t = 0
  · rw [if_pos c]; exact by_u h (by_P h)
  · rw [if_neg c]; exact h
theorem xo_r (S T w : Int32) : T ^^^ S = w ↔ T = w ^^^ S := by
  constructor
  · intro h; rw [← h, Int32.xor_assoc, Int32.xor_self, Int32.xor_zero]
  · intro h; rw [h, Int32.xor_assoc, Int32.xor_self, Int32.xor_zero]
end
end
section
section
variable {wc dl ns nb ca dn sn bm : Int32} {ba ds mk wo vt bo us ws wv nt ys yv yz : Nat → Int32}
/-! products and sums, on both sides -/
theorem xp_l {post : Int32 → Prop} {k : Nat} (hk : k < 2 ^ 31) : ∀ (e i : Nat) (x : Int32), i + e = k → post (gf_d e x) → wX_product_5 post (nI k) wc dl ns nb ca dn sn bm ba ds mk wo vt bo us ws wv nt (e + 1) x (nI i) := by
  intro e
  induction e with
  | zero => intro i x hi hp; exact br_t (nI_le (by omega) (by omega)) hp
  | succ e ih =>
    intro i x hi hp
    refine br_f (nI_ge (by omega) (by omega)) (nm_r (rb_shl x) (br_c (fun h => nm_r (nI_1 i) (ih _ _ (by omega) ?_)) (fun h => nm_e (nm_r (nI_1 i) (ih _ _ (by omega) ?_)))))
    · have hp : post (gf_d e (gf_s x)) := hp
      rw [gf_s, if_pos h] at hp; exact hp
    · have hp : post (gf_d e (gf_s x)) := hp
      rw [gf_s, if_neg h] at hp; exact hp
theorem xp_r {post : Int32 → Prop} {k : Nat} {x : Int32} (hk : k < 2 ^ 31) (h : post (gf_d k x)) : wpX_product post (wc, dl, ns, nb, ca, dn, sn, bm, ba, ds, mk, wo, vt, bo, us, ws, wv, nt) (nI k) x :=
  ⟨k + 1, xp_l hk k 0 x (by omega) h⟩
theorem yp_l {post : Int32 → Prop} {k : Nat} (hk : k < 2 ^ 31) : ∀ (e i : Nat) (x : Int32), i + e = k → post (gf_d e x) → wY_product_4 post (nI k) (e + 1) x (nI i) := by
  intro e
  induction e with
  | zero => intro i x hi hp; exact br_t (nI_le (by omega) (by omega)) hp
  | succ e ih =>
    intro i x hi hp
    have hp : post (gf_d e (gf_s x)) := hp
    refine br_f (nI_ge (by omega) (by omega)) (br_c (fun h => nm_e (nm_r (nI_1 i) (ih _ _ (by omega) ?_))) (fun h => nm_e (nm_r (nI_1 i) (ih _ _ (by omega) ?_))))
    · rw [gf_s, if_neg (Int32.not_lt.mpr h)] at hp; exact hp
    · rw [gf_s, if_pos (Int32.not_le.mp h)] at hp; exact hp
theorem yp_r {post : Int32 → Prop} {k : Nat} {x : Int32} (hk : k < 2 ^ 31) (h : post (gf_d k x)) : wpY_product post (nI k) x :=
  ⟨k + 1, yp_l hk k 0 x (by omega) h⟩
theorem xs_s {post : Int32 → Prop} {i n : Nat} {q : Int32} (hi : i < 4) (h : wX_sumOfProducts_4 post wc dl ns nb ca dn sn bm ba ds mk wo vt bo us ws wv nt n (q ^^^ gf_d i (wo i)) (nI (i + 1))) : wX_sumOfProducts_4 post wc dl ns nb ca dn sn bm ba ds mk wo vt bo us ws wv nt (n + 1) q (nI i) := by
  refine br_f (nI_ge (b := 4) hi (by decide)) ⟨vp_in_nI (by omega) (by omega), xp_r (by omega) ?_⟩
  rw [nI_clamp (by omega)]
  exact nm_e (nm_r (nI_1 i) h)
theorem xs_r {post : Int32 → Prop} (h : post (sm_P wo)) : wpX_sumOfProducts post (wc, dl, ns, nb, ca, dn, sn, bm, ba, ds, mk, wo, vt, bo, us, ws, wv, nt) :=
  ⟨5, xs_s (i := 0) (by decide) (xs_s (i := 1) (by decide) (xs_s (i := 2) (by decide) (xs_s (i := 3) (by decide) (br_t (by decide) h))))⟩
theorem ys_s {post : Int32 → Prop} {i n : Nat} {q : Int32} (hi : i < 4) (h : wY_sumOfProducts_4 post dl ca sn bm dn wc nb ns ba ds mk vt bo ys yv nt yz n (q ^^^ gf_d i (yz i)) (nI (i + 1))) : wY_sumOfProducts_4 post dl ca sn bm dn wc nb ns ba ds mk vt bo ys yv nt yz (n + 1) q (nI i) := by
  refine br_f (nI_ge (b := 4) hi (by decide)) ⟨vp_in_nI (by omega) (by omega), yp_r (by omega) ?_⟩
  rw [nI_clamp (by omega)]
  exact nm_e (nm_r (nI_1 i) h)
theorem ys_r {post : Int32 → Prop} (h : post (sm_P yz)) : wpY_sumOfProducts post (dl, ca, sn, bm, dn, wc, nb, ns, ba, ds, mk, vt, bo, ys, yv, nt, yz) :=
  ⟨5, ys_s (i := 0) (by decide) (ys_s (i := 1) (by decide) (ys_s (i := 2) (by decide) (ys_s (i := 3) (by decide) (br_t (by decide) h))))⟩
theorem xd_r {post : Int32 → Prop} (h : post (sm_D wo)) : wpX_sumOfData post (wc, dl, ns, nb, ca, dn, sn, bm, ba, ds, mk, wo, vt, bo, us, ws, wv, nt) := h
theorem yd_r {post : Int32 → Prop} (h : post (sm_D yz)) : wpY_sum post (dl, ca, sn, bm, dn, wc, nb, ns, ba, ds, mk, vt, bo, ys, yv, nt, yz) := h
/-! whether a byte is there -/
def th_v (ds mk : Nat → Int32) (d s : Nat) : Int32 := if ds d = 0 then 1 else if ds d = 2 then (if mk d ≤ nI s then 0 else 1) else 0
theorem th_n (d s : Nat) : narrow .boolean (.int (th_v ds mk d s)) = .int (th_v ds mk d s) := by
  unfold th_v
  split
  · rfl
  · split
    · split <;> rfl
    · rfl
theorem xt_r {post : Int32 → Prop} {d s : Nat} (hd : d < 6) (hs : s < 16) (h : post (th_v ds mk d s)) : wpX_isThere post (wc, dl, ns, nb, ca, dn, sn, bm, ba, ds, mk, wo, vt, bo, us, ws, wv, nt) (nI d) (nI s) := by
  refine br_f (nI_pos (by omega)) (br_f (nI_ge (b := 6) hd (by decide)) (br_f (nI_pos (by omega)) (br_t (nI_lt (b := 16) hs (by decide)) ⟨vp_in_nI hd (by omega), ?_⟩)))
  rw [nI_clamp (by omega)]
  unfold th_v at h
  refine br_c (fun a => ?_) (fun a => ⟨vp_in_nI hd (by omega), br_c (fun b => ⟨vp_in_nI hd (by omega), br_c (fun c => ?_) (fun c => ?_)⟩) (fun b => ?_)⟩)
  · rw [if_pos a] at h; exact h
  · rw [if_neg a, if_pos b, if_pos c] at h; exact h
  · rw [if_neg a, if_pos b, if_neg c] at h; exact h
  · rw [if_neg a, if_neg b] at h; exact h
theorem yt_r {post : Int32 → Prop} {d s : Nat} (hd : d < 6) (h : post (th_v ds mk d s)) : wpY_isThere post (dl, ca, sn, bm, dn, wc, nb, ns, ba, ds, mk, vt, bo, ys, yv, nt, yz) (nI d) (nI s) := by
  refine ⟨vp_in_nI hd (by omega), ?_⟩
  rw [nI_clamp (by omega)]
  unfold th_v at h
  refine br_c (fun a => ?_) (fun a => ⟨vp_in_nI hd (by omega), br_c (fun b => ⟨vp_in_nI hd (by omega), br_c (fun c => ?_) (fun c => ?_)⟩) (fun b => ?_)⟩)
  · rw [if_pos a] at h; exact h
  · rw [if_neg a, if_pos b, if_pos c] at h; exact h
  · rw [if_neg a, if_pos b, if_neg c] at h; exact h
  · rw [if_neg a, if_neg b] at h; exact h
theorem yh_r {post : Int32 → Prop} {s k : Nat} (hs : s < 16) (hk : k < 6) (h : post (th_v ds mk ((s + k) % 6) s)) : wpY_has post (dl, ca, sn, bm, dn, wc, nb, ns, ba, ds, mk, vt, bo, ys, yv, nt, yz) (nI s) (nI k) := by
  refine ⟨rb_6, ?_⟩
  rw [rb_dk (by omega) (by omega)]
  exact yt_r (Nat.mod_lt _ (by decide)) ⟨th_n _ _, h⟩
theorem yc_r {post : Int32 → Prop} {s k : Nat} (hs : s < 16) (hk : k < 6) (h : post (nI ((s + k) % 6 * 16 + s))) : wpY_cell post (nI s) (nI k) := by
  refine ⟨rb_6, ?_⟩
  rw [rb_dk (by omega) (by omega), rb_cell]
  exact h
/-! how many bytes of a stripe are missing -/
def cm_x (ds mk : Nat → Int32) (s : Nat) : Nat → Nat
  | 0 => 0
  | n + 1 => cm_x ds mk s n + if th_v ds mk n s = 0 then 1 else 0
def cm_y (ds mk : Nat → Int32) (s : Nat) : Nat → Nat
  | 0 => 0
  | n + 1 => cm_y ds mk s n + if th_v ds mk ((s + n) % 6) s = 0 then 1 else 0
theorem cm_e (s : Nat) : cm_y ds mk s 6 = cm_x ds mk s 6 := by
  simp only [cm_x, cm_y]
  generalize hf : (fun d => if th_v ds mk d s = 0 then 1 else 0) = f
  have e : ∀ d, (if th_v ds mk d s = 0 then 1 else 0) = f d := fun d => by rw [← hf]
  simp only [e]
  have h : s % 6 = 0 ∨ s % 6 = 1 ∨ s % 6 = 2 ∨ s % 6 = 3 ∨ s % 6 = 4 ∨ s % 6 = 5 := by omega
  rcases h with h | h | h | h | h | h
  · rw [show (s + 0) % 6 = 0 by omega, show (s + 1) % 6 = 1 by omega, show (s + 2) % 6 = 2 by omega, show (s + 3) % 6 = 3 by omega, show (s + 4) % 6 = 4 by omega, show (s + 5) % 6 = 5 by omega]
  · rw [show (s + 0) % 6 = 1 by omega, show (s + 1) % 6 = 2 by omega, show (s + 2) % 6 = 3 by omega, show (s + 3) % 6 = 4 by omega, show (s + 4) % 6 = 5 by omega, show (s + 5) % 6 = 0 by omega]; omega
  · rw [show (s + 0) % 6 = 2 by omega, show (s + 1) % 6 = 3 by omega, show (s + 2) % 6 = 4 by omega, show (s + 3) % 6 = 5 by omega, show (s + 4) % 6 = 0 by omega, show (s + 5) % 6 = 1 by omega]; omega
  · rw [show (s + 0) % 6 = 3 by omega, show (s + 1) % 6 = 4 by omega, show (s + 2) % 6 = 5 by omega, show (s + 3) % 6 = 0 by omega, show (s + 4) % 6 = 1 by omega, show (s + 5) % 6 = 2 by omega]; omega
  · rw [show (s + 0) % 6 = 4 by omega, show (s + 1) % 6 = 5 by omega, show (s + 2) % 6 = 0 by omega, show (s + 3) % 6 = 1 by omega, show (s + 4) % 6 = 2 by omega, show (s + 5) % 6 = 3 by omega]; omega
  · rw [show (s + 0) % 6 = 5 by omega, show (s + 1) % 6 = 0 by omega, show (s + 2) % 6 = 1 by omega, show (s + 3) % 6 = 2 by omega, show (s + 4) % 6 = 3 by omega, show (s + 5) % 6 = 4 by omega]; omega
theorem xm_s {post : Int32 → Prop} {s i c n : Nat} (hs : s < 16) (hi : i < 6) (h : wX_countMissing_4 post (nI s) wc dl ns nb ca dn sn bm ba ds mk wo vt bo us ws wv nt n (nI (c + if th_v ds mk i s = 0 then 1 else 0)) (nI (i + 1))) : wX_countMissing_4 post (nI s) wc dl ns nb ca dn sn bm ba ds mk wo vt bo us ws wv nt (n + 1) (nI c) (nI i) := by
  refine br_f (nI_ge (b := 6) hi (by decide)) (xt_r hi hs (br_c (fun z => ?_) (fun z => ?_)))
  · rw [if_pos z] at h
    exact nm_r (nI_1 c) (nm_r (nI_1 i) h)
  · rw [if_neg z] at h
    exact nm_r (nI_1 i) h
theorem xm_r {post : Int32 → Prop} {s : Nat} (hs : s < 16) (h : post (nI (cm_x ds mk s 6))) : wpX_countMissing post (wc, dl, ns, nb, ca, dn, sn, bm, ba, ds, mk, wo, vt, bo, us, ws, wv, nt) (nI s) :=
  ⟨7, xm_s (i := 0) (c := 0) hs (by decide) (xm_s (i := 1) hs (by decide) (xm_s (i := 2) hs (by decide) (xm_s (i := 3) hs (by decide) (xm_s (i := 4) hs (by decide) (xm_s (i := 5) hs (by decide) (br_t (by decide) h))))))⟩
theorem cm_le {s : Nat} : ∀ n, cm_x ds mk s n ≤ n := by
  intro n
  induction n with
  | zero => exact Nat.le_refl 0
  | succ n ih =>
    show cm_x ds mk s n + (if _ then 1 else 0) ≤ n + 1
    split <;> omega
def lo_v (ds mk : Nat → Int32) (s : Nat) : Int32 := if cm_x ds mk s 6 ≤ 2 then 0 else 1
theorem xl_r {post : Int32 → Prop} {s : Nat} (hs : s < 16) (h : post (lo_v ds mk s)) : wpX_isLost post (wc, dl, ns, nb, ca, dn, sn, bm, ba, ds, mk, wo, vt, bo, us, ws, wv, nt) (nI s) := by
  unfold wpX_isLost
  have hc := cm_le (ds := ds) (mk := mk) (s := s) 6
  unfold lo_v at h
  refine xm_r hs (pk_le (cm_x ds mk s 6) 2 (fun z => ?_) (fun z => ?_))
  · rw [if_pos z] at h; exact h
  · rw [if_neg (by omega)] at h; exact h
theorem yl_s {post : Int32 → Prop} {s i c n : Nat} (hs : s < 16) (hi : i < 6) (h : wY_lost_4 post (nI s) dl ca sn bm dn wc nb ns ba ds mk vt bo ys yv nt yz n (nI (c + if th_v ds mk ((s + i) % 6) s = 0 then 1 else 0)) (nI (i + 1))) : wY_lost_4 post (nI s) dl ca sn bm dn wc nb ns ba ds mk vt bo ys yv nt yz (n + 1) (nI c) (nI i) := by
  refine br_f (nI_ge (b := 6) hi (by decide)) (yh_r hs hi (br_c (fun z => ?_) (fun z => ?_)))
  · rw [if_pos z] at h
    exact nm_r (nI_1 c) (nm_r (nI_1 i) h)
  · rw [if_neg z] at h
    exact nm_r (nI_1 i) h
theorem yl_r {post : Int32 → Prop} {s : Nat} (hs : s < 16) (h : post (lo_v ds mk s)) : wpY_lost post (dl, ca, sn, bm, dn, wc, nb, ns, ba, ds, mk, vt, bo, ys, yv, nt, yz) (nI s) := by
  have hc := cm_le (ds := ds) (mk := mk) (s := s) 6
  have he : wY_lost_4 post (nI s) dl ca sn bm dn wc nb ns ba ds mk vt bo ys yv nt yz 1 (nI (cm_y ds mk s 6)) (nI 6) := by
    rw [cm_e]
    unfold lo_v at h
    refine br_t (by decide) (pk_le (cm_x ds mk s 6) 2 (fun z => ?_) (fun z => ?_))
    · rw [if_pos z] at h; exact h
    · rw [if_neg (by omega)] at h; exact h
  exact ⟨7, yl_s (i := 0) (c := 0) hs (by decide) (yl_s (i := 1) hs (by decide) (yl_s (i := 2) hs (by decide) (yl_s (i := 3) hs (by decide) (yl_s (i := 4) hs (by decide) (yl_s (i := 5) hs (by decide) he)))))⟩
end
end
section
section
variable {wc dl ns nb ca dn sn bm : Int32} {ba ds mk wo vt bo us ws wv nt ys yv yz : Nat → Int32}
/-! the worths of a stripe -/
def by_k (ba : Nat → Int32) : Prop := ∀ j : Nat, j < 96 → is_b (ba j)
def bs_v (ba ds mk : Nat → Int32) (s j : Nat) : Int32 := if th_v ds mk ((s + j) % 6) s = 0 then 0 else ba ((s + j) % 6 * 16 + s)
theorem bs_b {s : Nat} (hs : s < 16) (hb : by_k ba) (j : Nat) : is_b (bs_v ba ds mk s j) := by
  unfold bs_v
  split
  · exact is_b0
  · exact hb _ (by omega)
def gx_s (t : Int32) (k : Nat) (p : Int32 × Int32) : Int32 × Int32 := if t = 0 ∧ k < 4 then (nI k, p.1) else p
def gy_s (t : Int32) (k : Nat) (p : Int32 × Int32) : Int32 × Int32 := if t = 0 then (if 0 ≤ p.1 then (p.1, nI k) else (nI k, p.2)) else p
def gx_a (t : Nat → Int32) : Int32 × Int32 := gx_s (t 0) 0 (gx_s (t 1) 1 (gx_s (t 2) 2 (gx_s (t 3) 3 (gx_s (t 4) 4 (gx_s (t 5) 5 (-1, -1))))))
def gy_a (t : Nat → Int32) : Int32 × Int32 := gy_s (t 3) 3 (gy_s (t 2) 2 (gy_s (t 1) 1 (gy_s (t 0) 0 (-1, -1))))
theorem gp_0 : (0 : Int32) ≤ nI 0 := by decide
theorem gp_1 : (0 : Int32) ≤ nI 1 := by decide
theorem gp_2 : (0 : Int32) ≤ nI 2 := by decide
theorem gp_3 : (0 : Int32) ≤ nI 3 := by decide
theorem gx_y {t : Int32} {k : Nat} {p : Int32 × Int32} (h : t = 0) (hk : k < 4) : gx_s t k p = (nI k, p.1) := if_pos ⟨h, hk⟩
theorem gx_n {t : Int32} {k : Nat} {p : Int32 × Int32} (h : ¬ t = 0) : gx_s t k p = p := if_neg (fun z => h z.1)
theorem gx_m {t : Int32} {k : Nat} {p : Int32 × Int32} (h : ¬ k < 4) : gx_s t k p = p := if_neg (fun z => h z.2)
theorem gy_n {t : Int32} {k : Nat} {p : Int32 × Int32} (h : ¬ t = 0) : gy_s t k p = p := if_neg h
theorem gy_1 {t : Int32} {k : Nat} {b : Int32} (h : t = 0) : gy_s t k (-1, b) = (nI k, b) := by
  unfold gy_s
  rw [if_pos h, if_neg rb_n1le]
theorem gy_2 {t : Int32} {k g : Nat} {b : Int32} (h : t = 0) (hg : g < 4) : gy_s t k (nI g, b) = (nI g, nI k) := by
  unfold gy_s
  rw [if_pos h, if_pos (nI_pos' (by omega))]
def gc_o (t : Nat → Int32) : Prop := (gx_a t = (-1, -1) ∧ gy_a t = (-1, -1)) ∨ (∃ g : Nat, g < 4 ∧ t g = 0 ∧ gx_a t = (nI g, -1) ∧ gy_a t = (nI g, -1)) ∨ (∃ g n : Nat, g < n ∧ n < 4 ∧ t g = 0 ∧ t n = 0 ∧ gx_a t = (nI g, nI n) ∧ gy_a t = (nI g, nI n))
theorem gc_r (t : Nat → Int32) (h : (if t 0 = 0 then 1 else 0) + (if t 1 = 0 then 1 else 0) + (if t 2 = 0 then 1 else 0) + (if t 3 = 0 then 1 else 0) ≤ 2) : gc_o t := by
  unfold gc_o gx_a gy_a
  rw [gx_m (t := t 5) (by decide), gx_m (t := t 4) (by decide)]
  by_cases a0 : t 0 = 0
  · by_cases a1 : t 1 = 0
    · by_cases a2 : t 2 = 0
      · by_cases a3 : t 3 = 0
        · exfalso
          simp only [a0, a1, a2, a3, if_true, if_false] at h
          omega
        · exfalso
          simp only [a0, a1, a2, a3, if_true, if_false] at h
          omega
      · by_cases a3 : t 3 = 0
        · exfalso
          simp only [a0, a1, a2, a3, if_true, if_false] at h
          omega
        · rw [gx_n a3, gx_n a2, gx_y a1 (by decide), gx_y a0 (by decide), gy_1 a0, gy_2 a1 (by decide), gy_n a2, gy_n a3]
          exact Or.inr (Or.inr ⟨0, 1, by decide, by decide, a0, a1, rfl, rfl⟩)
    · by_cases a2 : t 2 = 0
      · by_cases a3 : t 3 = 0
        · exfalso
          simp only [a0, a1, a2, a3, if_true, if_false] at h
          omega
        · rw [gx_n a3, gx_y a2 (by decide), gx_n a1, gx_y a0 (by decide), gy_1 a0, gy_n a1, gy_2 a2 (by decide), gy_n a3]
          exact Or.inr (Or.inr ⟨0, 2, by decide, by decide, a0, a2, rfl, rfl⟩)
      · by_cases a3 : t 3 = 0
        · rw [gx_y a3 (by decide), gx_n a2, gx_n a1, gx_y a0 (by decide), gy_1 a0, gy_n a1, gy_n a2, gy_2 a3 (by decide)]
          exact Or.inr (Or.inr ⟨0, 3, by decide, by decide, a0, a3, rfl, rfl⟩)
        · rw [gx_n a3, gx_n a2, gx_n a1, gx_y a0 (by decide), gy_1 a0, gy_n a1, gy_n a2, gy_n a3]
          exact Or.inr (Or.inl ⟨0, by decide, a0, rfl, rfl⟩)
  · by_cases a1 : t 1 = 0
    · by_cases a2 : t 2 = 0
      · by_cases a3 : t 3 = 0
        · exfalso
          simp only [a0, a1, a2, a3, if_true, if_false] at h
          omega
        · rw [gx_n a3, gx_y a2 (by decide), gx_y a1 (by decide), gx_n a0, gy_n a0, gy_1 a1, gy_2 a2 (by decide), gy_n a3]
          exact Or.inr (Or.inr ⟨1, 2, by decide, by decide, a1, a2, rfl, rfl⟩)
      · by_cases a3 : t 3 = 0
        · rw [gx_y a3 (by decide), gx_n a2, gx_y a1 (by decide), gx_n a0, gy_n a0, gy_1 a1, gy_n a2, gy_2 a3 (by decide)]
          exact Or.inr (Or.inr ⟨1, 3, by decide, by decide, a1, a3, rfl, rfl⟩)
        · rw [gx_n a3, gx_n a2, gx_y a1 (by decide), gx_n a0, gy_n a0, gy_1 a1, gy_n a2, gy_n a3]
          exact Or.inr (Or.inl ⟨1, by decide, a1, rfl, rfl⟩)
    · by_cases a2 : t 2 = 0
      · by_cases a3 : t 3 = 0
        · rw [gx_y a3 (by decide), gx_y a2 (by decide), gx_n a1, gx_n a0, gy_n a0, gy_n a1, gy_1 a2, gy_2 a3 (by decide)]
          exact Or.inr (Or.inr ⟨2, 3, by decide, by decide, a2, a3, rfl, rfl⟩)
        · rw [gx_n a3, gx_y a2 (by decide), gx_n a1, gx_n a0, gy_n a0, gy_n a1, gy_1 a2, gy_n a3]
          exact Or.inr (Or.inl ⟨2, by decide, a2, rfl, rfl⟩)
      · by_cases a3 : t 3 = 0
        · rw [gx_y a3 (by decide), gx_n a2, gx_n a1, gx_n a0, gy_n a0, gy_n a1, gy_n a2, gy_1 a3]
          exact Or.inr (Or.inl ⟨3, by decide, a3, rfl, rfl⟩)
        · rw [gx_n a3, gx_n a2, gx_n a1, gx_n a0, gy_n a0, gy_n a1, gy_n a2, gy_n a3]
          exact Or.inl ⟨rfl, rfl⟩

theorem xw_s {post : SX → Prop} {s k n : Nat} {p : Int32 × Int32} (hs : s < 16) (hk : k < 6) (h : wX_findWorths_7 post (nI s) wc dl ns nb ca dn sn bm n (gx_s (th_v ds mk ((s + k) % 6) s) k p).1 (gx_s (th_v ds mk ((s + k) % 6) s) k p).2 (nI k + (-1)) ba ds mk (upd wo k (bs_v ba ds mk s k)) vt bo us ws wv nt) : wX_findWorths_7 post (nI s) wc dl ns nb ca dn sn bm (n + 1) p.1 p.2 (nI k) ba ds mk wo vt bo us ws wv nt := by
  refine br_f (nI_pos (by omega)) ⟨rb_6, nm_r (rb_dk (by omega) (by omega)) (xt_r (Nat.mod_lt _ (by decide)) hs (br_c (fun z => ⟨vp_in_nI hk (by omega), ?_⟩) (fun z => ⟨pk_in ((s + k) % 6 * 16 + s) 96 (by omega) (rb_cell _ _), vp_in_nI hk (by omega), ?_⟩)))⟩
  · rw [nI_clamp (by omega)]
    rw [bs_v, if_pos z] at h
    refine nm_e (br_t z (pk_le 4 k (fun c => nm_e ?_) (fun c => nm_e ?_)))
    · rw [gx_m (by omega)] at h; exact h
    · rw [gx_y z (by omega)] at h; exact h
  · rw [nI_clamp (by omega), rb_cell, nI_clamp (by omega)]
    rw [bs_v, if_neg z, gx_n z] at h
    exact nm_e (br_f z (nm_e h))
theorem yw_s {post : SY → Prop} {s k n : Nat} {a b : Int32} (hs : s < 16) (hk : k < 6) (h : wY_weigh_7 post (nI s) a b dl ca sn bm dn wc nb ns n (nI (k + 1)) ba ds mk vt bo ys yv nt (upd yz k (bs_v ba ds mk s k))) : wY_weigh_7 post (nI s) a b dl ca sn bm dn wc nb ns (n + 1) (nI k) ba ds mk vt bo ys yv nt yz := by
  refine br_f (nI_ge (b := 6) hk (by decide)) (yh_r hs hk (br_c (fun z => ⟨vp_in_nI hk (by omega), ?_⟩) (fun z => yc_r hs hk ⟨vp_in_nI (by omega) (by omega), vp_in_nI hk (by omega), ?_⟩)))
  · rw [nI_clamp (by omega)]
    rw [bs_v, if_pos z] at h
    exact nm_e (nm_r (nI_1 k) h)
  · rw [nI_clamp (by omega), nI_clamp (by omega)]
    rw [bs_v, if_neg z] at h
    exact nm_e (nm_r (nI_1 k) h)
theorem y5_s {post : SY → Prop} {s k n : Nat} {p : Int32 × Int32} (hs : s < 16) (hk : k < 4) (h : wY_weigh_55 post (nI s) dl ca sn bm dn wc nb ns ba ds mk vt bo ys yv nt yz n (gy_s (th_v ds mk ((s + k) % 6) s) k p).1 (gy_s (th_v ds mk ((s + k) % 6) s) k p).2 (nI (k + 1))) : wY_weigh_55 post (nI s) dl ca sn bm dn wc nb ns ba ds mk vt bo ys yv nt yz (n + 1) p.1 p.2 (nI k) := by
  refine br_f (nI_ge (b := 4) hk (by decide)) (yh_r hs (by omega) (br_c (fun z => br_c (fun c => nm_r (nI_1 k) ?_) (fun c => nm_r (nI_1 k) ?_)) (fun z => nm_r (nI_1 k) ?_)))
  · rw [gy_s, if_pos z, if_pos c] at h; exact h
  · rw [gy_s, if_pos z, if_neg c] at h; exact h
  · rw [gy_n z] at h; exact h
theorem xw_g {post : SX → Prop} {tQ : Int32} (h : post (wc, dl, ns, nb, ca, dn, sn, bm, ba, ds, mk, fn_2 tQ wo, vt, bo, us, ws, wv, nt)) : wX_findWorths_195 post tQ wc dl ns nb ca dn sn bm ba ds mk wo vt bo us ws wv nt := by
  unfold fn_2 at h
  refine br_c (fun z => xs_r (nm_e ?_)) (fun z => ?_)
  · rw [if_pos z] at h; exact h
  · rw [if_neg z] at h; exact h
theorem xw_f {post : SX → Prop} {tP tQ : Int32} (h : post (wc, dl, ns, nb, ca, dn, sn, bm, ba, ds, mk, fn_2 tQ (fn_1 tP wo), vt, bo, us, ws, wv, nt)) : wX_findWorths_180 post tP tQ wc dl ns nb ca dn sn bm ba ds mk wo vt bo us ws wv nt := by
  unfold fn_1 at h
  refine br_c (fun z => xd_r (nm_e (xw_g ?_))) (fun z => xw_g ?_)
  · rw [if_pos z] at h; exact h
  · rw [if_neg z] at h; exact h
theorem yw_g {post : SY → Prop} {tQ : Int32} (h : post (dl, ca, sn, bm, dn, wc, nb, ns, ba, ds, mk, vt, bo, ys, yv, nt, fn_2 tQ yz)) : wY_weigh_262 post tQ dl ca sn bm dn wc nb ns ba ds mk vt bo ys yv nt yz := by
  unfold fn_2 at h
  refine br_c (fun z => ys_r (nm_e ?_)) (fun z => ?_)
  · rw [if_pos z] at h; exact h
  · rw [if_neg z] at h; exact h
theorem yw_f {post : SY → Prop} {tP tQ : Int32} (h : post (dl, ca, sn, bm, dn, wc, nb, ns, ba, ds, mk, vt, bo, ys, yv, nt, fn_2 tQ (fn_1 tP yz))) : wY_weigh_247 post tP tQ dl ca sn bm dn wc nb ns ba ds mk vt bo ys yv nt yz := by
  unfold fn_1 at h
  refine br_c (fun z => yd_r (nm_e (yw_g ?_))) (fun z => yw_g ?_)
  · rw [if_pos z] at h; exact h
  · rw [if_neg z] at h; exact h
/-! the component's searches -/
theorem xq_l {post : SX → Prop} {g x0 : Nat} {q : Int32} (hg : g < 6) (hx : x0 < 256) (hu : ∀ y : Nat, y < 256 → gf_d g (nI y) = q → y = x0) (hq : gf_d g (nI x0) = q) (hp : post (wc, dl, ns, nb, ca, dn, sn, bm, ba, ds, mk, upd wo g (nI x0), vt, bo, us, ws, wv, nt)) : ∀ (e i : Nat), i + e = 256 → wX_fillByQ_2 post (nI g) q wc dl ns nb ca dn sn bm (e + 1) (nI i) ba ds mk (if x0 < i then upd wo g (nI x0) else wo) vt bo us ws wv nt := by
  intro e
  induction e with
  | zero =>
    intro i hi
    rw [if_pos (by omega)]
    exact br_t (nI_le (a := 256) (by omega) (by omega)) hp
  | succ e ih =>
    intro i hi
    have ih := ih (i + 1) (by omega)
    refine br_f (nI_ge (b := 256) (by omega) (by decide)) (xp_r (by omega) (br_c (fun z => ⟨vp_in_nI hg (by omega), nm_e (nm_r (nI_1 i) ?_)⟩) (fun z => nm_r (nI_1 i) ?_)))
    · have e1 := hu i (by omega) z
      rw [if_pos (by omega)] at ih
      rw [if_neg (by omega), nI_clamp (by omega), e1]
      rw [e1] at ih
      exact ih
    · have e1 : i ≠ x0 := fun y => z (by rw [y]; exact hq)
      by_cases c : x0 < i
      · rw [if_pos (by omega)] at ih; rw [if_pos c]; exact ih
      · rw [if_neg (by omega)] at ih; rw [if_neg c]; exact ih
theorem xq_r {post : SX → Prop} {g x0 : Nat} {q : Int32} (hg : g < 6) (hx : x0 < 256) (hu : ∀ y : Nat, y < 256 → gf_d g (nI y) = q → y = x0) (hq : gf_d g (nI x0) = q) (hp : post (wc, dl, ns, nb, ca, dn, sn, bm, ba, ds, mk, upd wo g (nI x0), vt, bo, us, ws, wv, nt)) : wpX_fillByQ post (wc, dl, ns, nb, ca, dn, sn, bm, ba, ds, mk, wo, vt, bo, us, ws, wv, nt) (nI g) q := by
  have h := xq_l hg hx hu hq hp 256 0 (by omega)
  rw [if_neg (by omega)] at h
  exact ⟨257, h⟩
theorem x2_l {post : SX → Prop} {g k x0 : Nat} {p q : Int32} (hg : g < 6) (hk : k < 6) (hx : x0 < 256) (hu : ∀ y : Nat, y < 256 → gf_d g (nI y) ^^^ gf_d k (p ^^^ nI y) = q → y = x0) (hq : gf_d g (nI x0) ^^^ gf_d k (p ^^^ nI x0) = q) (hp : post (wc, dl, ns, nb, ca, dn, sn, bm, ba, ds, mk, upd (upd wo g (nI x0)) k (p ^^^ nI x0), vt, bo, us, ws, wv, nt)) : ∀ (e i : Nat), i + e = 256 → wX_fillTwo_3 post (nI g) (nI k) p q wc dl ns nb ca dn sn bm (e + 1) (nI i) ba ds mk (if x0 < i then upd (upd wo g (nI x0)) k (p ^^^ nI x0) else wo) vt bo us ws wv nt := by
  intro e
  induction e with
  | zero =>
    intro i hi
    rw [if_pos (by omega)]
    exact br_t (nI_le (a := 256) (by omega) (by omega)) hp
  | succ e ih =>
    intro i hi
    have ih := ih (i + 1) (by omega)
    refine br_f (nI_ge (b := 256) (by omega) (by decide)) (xp_r (by omega) (xp_r (by omega) (nm_e (br_c (fun z => ⟨vp_in_nI hg (by omega), nm_e ⟨vp_in_nI hk (by omega), nm_e (nm_r (nI_1 i) ?_)⟩⟩) (fun z => nm_r (nI_1 i) ?_)))))
    · have e1 := hu i (by omega) z
      rw [if_pos (by omega)] at ih
      rw [if_neg (by omega), nI_clamp (by omega), nI_clamp (by omega), e1]
      rw [e1] at ih
      exact ih
    · have e1 : i ≠ x0 := fun y => z (by rw [y]; exact hq)
      by_cases c : x0 < i
      · rw [if_pos (by omega)] at ih; rw [if_pos c]; exact ih
      · rw [if_neg (by omega)] at ih; rw [if_neg c]; exact ih
theorem x2_r {post : SX → Prop} {g k x0 : Nat} {p q : Int32} (hg : g < 6) (hk : k < 6) (hx : x0 < 256) (hu : ∀ y : Nat, y < 256 → gf_d g (nI y) ^^^ gf_d k (p ^^^ nI y) = q → y = x0) (hq : gf_d g (nI x0) ^^^ gf_d k (p ^^^ nI x0) = q) (hp : post (wc, dl, ns, nb, ca, dn, sn, bm, ba, ds, mk, upd (upd wo g (nI x0)) k (p ^^^ nI x0), vt, bo, us, ws, wv, nt)) : wpX_fillTwo post (wc, dl, ns, nb, ca, dn, sn, bm, ba, ds, mk, wo, vt, bo, us, ws, wv, nt) (nI g) (nI k) p q := by
  have h := x2_l hg hk hx hu hq hp 256 0 (by omega)
  rw [if_neg (by omega)] at h
  exact ⟨257, h⟩
/-! the reference's search -/
theorem y1_q {post : SY → Prop} {g x0 : Nat} {tP tQ m : Int32} (hm : m < 0) (hg : g < 4) (hx : x0 < 256) (hP : tP = 0) (hc : sm_P (upd yz g (nI x0)) = yz 5) (hu : ∀ y : Nat, y < x0 → ¬ sm_P (upd yz g (nI y)) = yz 5) (hp : post (dl, ca, sn, bm, dn, wc, nb, ns, ba, ds, mk, vt, bo, ys, yv, nt, fn_2 tQ (fn_1 tP (upd yz g (nI x0))))) : ∀ (e i : Nat) (z : Int32), i + e = x0 → wY_weigh_123 post (nI g) m tP tQ dl ca sn bm dn wc nb ns (e + 2) 0 (nI i) ba ds mk vt bo ys yv nt (upd yz g z) := by
  intro e
  induction e with
  | zero =>
    intro i z hi
    refine br_f (nI_ge (b := 256) (by omega) (by decide)) (br_t rfl ⟨vp_in_nI (by omega) (by omega), ?_⟩)
    rw [nI_clamp (by omega), rb_uu]
    rw [show i = x0 by omega]
    refine nm_e (br_t hm (br_t hP (ys_r (br_t ?_ (nm_e (br_c (fun _ => yw_f hp) (fun _ => br_f (by decide) (yw_f hp))))))))
    rw [hc, pk_un (by omega)]
  | succ e ih =>
    intro i z hi
    refine br_f (nI_ge (b := 256) (by omega) (by decide)) (br_t rfl ⟨vp_in_nI (by omega) (by omega), ?_⟩)
    rw [nI_clamp (by omega), rb_uu]
    refine nm_e (br_t hm (br_t hP (ys_r (br_f ?_ (nm_r (nI_1 i) (ih _ _ (by omega)))))))
    rw [pk_un (by omega)]
    exact hu i (by omega)
theorem y1_p {post : SY → Prop} {g x0 : Nat} {tP tQ m : Int32} (hm : m < 0) (hg : g < 4) (hx : x0 < 256) (hP : ¬ tP = 0) (hc : sm_D (upd yz g (nI x0)) = yz 4) (hu : ∀ y : Nat, y < x0 → ¬ sm_D (upd yz g (nI y)) = yz 4) (hp : post (dl, ca, sn, bm, dn, wc, nb, ns, ba, ds, mk, vt, bo, ys, yv, nt, fn_2 tQ (fn_1 tP (upd yz g (nI x0))))) : ∀ (e i : Nat) (z : Int32), i + e = x0 → wY_weigh_123 post (nI g) m tP tQ dl ca sn bm dn wc nb ns (e + 2) 0 (nI i) ba ds mk vt bo ys yv nt (upd yz g z) := by
  intro e
  induction e with
  | zero =>
    intro i z hi
    refine br_f (nI_ge (b := 256) (by omega) (by decide)) (br_t rfl ⟨vp_in_nI (by omega) (by omega), ?_⟩)
    rw [nI_clamp (by omega), rb_uu]
    rw [show i = x0 by omega]
    refine nm_e (br_t hm (br_f hP (yd_r (br_t ?_ (nm_e (br_c (fun _ => yw_f hp) (fun _ => br_f (by decide) (yw_f hp))))))))
    rw [hc, pk_un (by omega)]
  | succ e ih =>
    intro i z hi
    refine br_f (nI_ge (b := 256) (by omega) (by decide)) (br_t rfl ⟨vp_in_nI (by omega) (by omega), ?_⟩)
    rw [nI_clamp (by omega), rb_uu]
    refine nm_e (br_t hm (br_f hP (yd_r (br_f ?_ (nm_r (nI_1 i) (ih _ _ (by omega)))))))
    rw [pk_un (by omega)]
    exact hu i (by omega)
def y2_v (yz : Nat → Int32) (g k : Nat) (x : Int32) : Int32 := sm_D (upd (upd yz g x) k 0) ^^^ yz 4
theorem y2_e {g k : Nat} {x z z' : Int32} (hgk : g < k) : upd (upd (upd (upd yz g z) k z') g x) k 0 = upd (upd yz g x) k 0 := by
  rw [rb_uc (f := upd yz g z) (by omega : k ≠ g), rb_uu, rb_uu]
theorem y2_l {post : SY → Prop} {g k x0 : Nat} {tP tQ : Int32} (hgk : g < k) (hk : k < 4) (hx : x0 < 256) (hc : sm_P (upd (upd yz g (nI x0)) k (y2_v yz g k (nI x0))) = yz 5) (hu : ∀ y : Nat, y < x0 → ¬ sm_P (upd (upd yz g (nI y)) k (y2_v yz g k (nI y))) = yz 5) (hp : post (dl, ca, sn, bm, dn, wc, nb, ns, ba, ds, mk, vt, bo, ys, yv, nt, fn_2 tQ (fn_1 tP (upd (upd yz g (nI x0)) k (y2_v yz g k (nI x0)))))) : ∀ (e i : Nat) (z z' : Int32), i + e = x0 → wY_weigh_123 post (nI g) (nI k) tP tQ dl ca sn bm dn wc nb ns (e + 2) 0 (nI i) ba ds mk vt bo ys yv nt (upd (upd yz g z) k z') := by
  have e2 : ∀ x : Int32, upd (upd (upd yz g x) k 0) k (sm_D (upd (upd yz g x) k 0) ^^^ (upd (upd yz g x) k 0) 4) = upd (upd yz g x) k (y2_v yz g k x) := by
    intro x
    rw [rb_uu, pk_un (by omega : 4 ≠ k), pk_un (by omega : 4 ≠ g)]
    rfl
  intro e
  induction e with
  | zero =>
    intro i z z' hi
    refine br_f (nI_ge (b := 256) (by omega) (by decide)) (br_t rfl ⟨vp_in_nI (by omega) (by omega), ?_⟩)
    rw [nI_clamp (by omega), show i = x0 by omega]
    refine nm_e (br_f (nI_pos (by omega)) ⟨vp_in_nI (by omega) (by omega), ?_⟩)
    rw [nI_clamp (by omega), y2_e hgk]
    refine nm_e (yd_r ⟨vp_in_nI (by omega) (by omega), ?_⟩)
    rw [e2]
    refine nm_e (ys_r (br_t ?_ (nm_e (br_c (fun _ => yw_f hp) (fun _ => br_f (by decide) (yw_f hp))))))
    rw [hc, pk_un (by omega), pk_un (by omega)]
  | succ e ih =>
    intro i z z' hi
    refine br_f (nI_ge (b := 256) (by omega) (by decide)) (br_t rfl ⟨vp_in_nI (by omega) (by omega), ?_⟩)
    rw [nI_clamp (by omega)]
    refine nm_e (br_f (nI_pos (by omega)) ⟨vp_in_nI (by omega) (by omega), ?_⟩)
    rw [nI_clamp (by omega), y2_e hgk]
    refine nm_e (yd_r ⟨vp_in_nI (by omega) (by omega), ?_⟩)
    rw [e2]
    refine nm_e (ys_r (br_f ?_ (nm_r (nI_1 i) (ih _ _ _ (by omega)))))
    rw [pk_un (by omega), pk_un (by omega)]
    exact hu i (by omega)
end
end
section
section
variable {wc dl ns nb ca dn sn bm : Int32} {ba ds mk wo vt bo us ws wv nt ys yv yz : Nat → Int32}
theorem e4_d {s : Nat} (hs : s < 16) : (nI s + 4) - (nI s + 4) / 6 * 6 = nI ((s + 4) % 6) := rb_dk (k := 4) (by omega) (by decide)
theorem e5_d {s : Nat} (hs : s < 16) : (nI s + 5) - (nI s + 5) / 6 * 6 = nI ((s + 5) % 6) := rb_dk (k := 5) (by omega) (by decide)
theorem xe_0 {post : SX → Prop} {s : Nat} (hs : s < 16) (h : post (wc, dl, ns, nb, ca, dn, sn, bm, ba, ds, mk, fn_2 (th_v ds mk ((s + 5) % 6) s) (fn_1 (th_v ds mk ((s + 4) % 6) s) wo), vt, bo, us, ws, wv, nt)) : wX_findWorths_7 post (nI s) wc dl ns nb ca dn sn bm 1 (-1) (-1) (nI 0 + (-1)) ba ds mk wo vt bo us ws wv nt := by
  refine br_t (by decide) ⟨rb_6, ?_⟩
  rw [e4_d hs]
  refine xt_r (Nat.mod_lt _ (by decide)) hs ⟨rb_6, ?_⟩
  rw [e5_d hs]
  refine xt_r (Nat.mod_lt _ (by decide)) hs (xd_r (nm_e (xs_r (nm_e ?_))))
  exact br_t rb_n1lt (br_t rb_n1lt (br_t rb_n1lt (xw_f h)))
theorem xe_p {post : SX → Prop} {s g : Nat} (hs : s < 16) (hg : g < 4) (hP : ¬ th_v ds mk ((s + 4) % 6) s = 0) (h : post (wc, dl, ns, nb, ca, dn, sn, bm, ba, ds, mk, fn_2 (th_v ds mk ((s + 5) % 6) s) (fn_1 (th_v ds mk ((s + 4) % 6) s) (upd wo g (wo 4 ^^^ sm_D wo))), vt, bo, us, ws, wv, nt)) : wX_findWorths_7 post (nI s) wc dl ns nb ca dn sn bm 1 (nI g) (-1) (nI 0 + (-1)) ba ds mk wo vt bo us ws wv nt := by
  refine br_t (by decide) ⟨rb_6, ?_⟩
  rw [e4_d hs]
  refine xt_r (Nat.mod_lt _ (by decide)) hs ⟨rb_6, ?_⟩
  rw [e5_d hs]
  refine xt_r (Nat.mod_lt _ (by decide)) hs (xd_r (nm_e (xs_r (nm_e ?_))))
  refine br_t rb_n1lt (br_f (nI_pos (by omega)) (br_f hP ⟨vp_in_nI (by omega) (by omega), ?_⟩))
  rw [nI_clamp (by omega)]
  exact nm_e (xw_f h)
theorem xe_q {post : SX → Prop} {s g x0 : Nat} (hs : s < 16) (hg : g < 4) (hP : th_v ds mk ((s + 4) % 6) s = 0) (hx : x0 < 256) (hu : ∀ y : Nat, y < 256 → gf_d g (nI y) = wo 5 ^^^ sm_P wo → y = x0) (hq : gf_d g (nI x0) = wo 5 ^^^ sm_P wo) (h : post (wc, dl, ns, nb, ca, dn, sn, bm, ba, ds, mk, fn_2 (th_v ds mk ((s + 5) % 6) s) (fn_1 (th_v ds mk ((s + 4) % 6) s) (upd wo g (nI x0))), vt, bo, us, ws, wv, nt)) : wX_findWorths_7 post (nI s) wc dl ns nb ca dn sn bm 1 (nI g) (-1) (nI 0 + (-1)) ba ds mk wo vt bo us ws wv nt := by
  refine br_t (by decide) ⟨rb_6, ?_⟩
  rw [e4_d hs]
  refine xt_r (Nat.mod_lt _ (by decide)) hs ⟨rb_6, ?_⟩
  rw [e5_d hs]
  refine xt_r (Nat.mod_lt _ (by decide)) hs (xd_r (nm_e (xs_r (nm_e ?_))))
  exact br_t rb_n1lt (br_f (nI_pos (by omega)) (br_t hP (br_f (nI_pos (by omega)) (xq_r (by omega) hx hu hq (xw_f h)))))
theorem xe_2 {post : SX → Prop} {s g k x0 : Nat} (hs : s < 16) (hg : g < 4) (hk : k < 4) (hx : x0 < 256) (hu : ∀ y : Nat, y < 256 → gf_d g (nI y) ^^^ gf_d k ((wo 4 ^^^ sm_D wo) ^^^ nI y) = wo 5 ^^^ sm_P wo → y = x0) (hq : gf_d g (nI x0) ^^^ gf_d k ((wo 4 ^^^ sm_D wo) ^^^ nI x0) = wo 5 ^^^ sm_P wo) (h : post (wc, dl, ns, nb, ca, dn, sn, bm, ba, ds, mk, fn_2 (th_v ds mk ((s + 5) % 6) s) (fn_1 (th_v ds mk ((s + 4) % 6) s) (upd (upd wo g (nI x0)) k ((wo 4 ^^^ sm_D wo) ^^^ nI x0))), vt, bo, us, ws, wv, nt)) : wX_findWorths_7 post (nI s) wc dl ns nb ca dn sn bm 1 (nI g) (nI k) (nI 0 + (-1)) ba ds mk wo vt bo us ws wv nt := by
  refine br_t (by decide) ⟨rb_6, ?_⟩
  rw [e4_d hs]
  refine xt_r (Nat.mod_lt _ (by decide)) hs ⟨rb_6, ?_⟩
  rw [e5_d hs]
  refine xt_r (Nat.mod_lt _ (by decide)) hs (xd_r (nm_e (xs_r (nm_e ?_))))
  exact br_f (nI_pos (by omega)) (x2_r (by omega) (by omega) hx hu hq (xw_f h))
theorem ye_0 {post : SY → Prop} {s : Nat} (hs : s < 16) (h : post (dl, ca, sn, bm, dn, wc, nb, ns, ba, ds, mk, vt, bo, ys, yv, nt, fn_2 (th_v ds mk ((s + 5) % 6) s) (fn_1 (th_v ds mk ((s + 4) % 6) s) yz))) : wY_weigh_55 post (nI s) dl ca sn bm dn wc nb ns ba ds mk vt bo ys yv nt yz 1 (-1) (-1) (nI 4) :=
  br_t (by decide) (yh_r (k := 4) hs (by decide) (yh_r (k := 5) hs (by decide) (br_f rb_n1le ⟨1, br_f (by decide) (br_f (by decide) (yw_f h))⟩)))
theorem ye_g {post : SY → Prop} {s g n : Nat} {m : Int32} (hs : s < 16) (hg : g < 4) (h : wY_weigh_123 post (nI g) m (th_v ds mk ((s + 4) % 6) s) (th_v ds mk ((s + 5) % 6) s) dl ca sn bm dn wc nb ns n 0 (nI 0) ba ds mk vt bo ys yv nt yz) : wY_weigh_55 post (nI s) dl ca sn bm dn wc nb ns ba ds mk vt bo ys yv nt yz 1 (nI g) m (nI 4) :=
  br_t (by decide) (yh_r (k := 4) hs (by decide) (yh_r (k := 5) hs (by decide) (br_t (nI_pos' (by omega)) ⟨n, h⟩)))
def wb_x (wo ba ds mk : Nat → Int32) (s : Nat) : Nat → Int32 := upd (upd (upd (upd (upd (upd wo 5 (bs_v ba ds mk s 5)) 4 (bs_v ba ds mk s 4)) 3 (bs_v ba ds mk s 3)) 2 (bs_v ba ds mk s 2)) 1 (bs_v ba ds mk s 1)) 0 (bs_v ba ds mk s 0)
def wb_y (yz ba ds mk : Nat → Int32) (s : Nat) : Nat → Int32 := upd (upd (upd (upd (upd (upd yz 0 (bs_v ba ds mk s 0)) 1 (bs_v ba ds mk s 1)) 2 (bs_v ba ds mk s 2)) 3 (bs_v ba ds mk s 3)) 4 (bs_v ba ds mk s 4)) 5 (bs_v ba ds mk s 5)
theorem wb_ax {s : Nat} : ag_6 (wb_x wo ba ds mk s) (bs_v ba ds mk s) := by
  intro j hj
  match j, hj with
  | 0, _ => rfl
  | 1, _ => rfl
  | 2, _ => rfl
  | 3, _ => rfl
  | 4, _ => rfl
  | 5, _ => rfl
theorem wb_ay {s : Nat} : ag_6 (wb_y yz ba ds mk s) (bs_v ba ds mk s) := by
  intro j hj
  match j, hj with
  | 0, _ => rfl
  | 1, _ => rfl
  | 2, _ => rfl
  | 3, _ => rfl
  | 4, _ => rfl
  | 5, _ => rfl
def tv_s (ds mk : Nat → Int32) (s k : Nat) : Int32 := th_v ds mk ((s + k) % 6) s
theorem xw_k {post : SX → Prop} {s k n : Nat} {p : Int32 × Int32} (hs : s < 16) (hk : k + 1 < 6) (h : wX_findWorths_7 post (nI s) wc dl ns nb ca dn sn bm n (gx_s (tv_s ds mk s (k + 1)) (k + 1) p).1 (gx_s (tv_s ds mk s (k + 1)) (k + 1) p).2 (nI k) ba ds mk (upd wo (k + 1) (bs_v ba ds mk s (k + 1))) vt bo us ws wv nt) : wX_findWorths_7 post (nI s) wc dl ns nb ca dn sn bm (n + 1) p.1 p.2 (nI (k + 1)) ba ds mk wo vt bo us ws wv nt :=
  xw_s hs hk (by rw [pk_m1]; exact h)
theorem xw_r {post : SX → Prop} {s : Nat} (hs : s < 16) (h : wX_findWorths_7 post (nI s) wc dl ns nb ca dn sn bm 1 (gx_a (tv_s ds mk s)).1 (gx_a (tv_s ds mk s)).2 (nI 0 + (-1)) ba ds mk (wb_x wo ba ds mk s) vt bo us ws wv nt) : wpX_findWorths post (wc, dl, ns, nb, ca, dn, sn, bm, ba, ds, mk, wo, vt, bo, us, ws, wv, nt) (nI s) :=
  ⟨7, xw_k (k := 4) (p := (-1, -1)) hs (by decide) (xw_k (k := 3) hs (by decide) (xw_k (k := 2) hs (by decide) (xw_k (k := 1) hs (by decide) (xw_k (k := 0) hs (by decide) (xw_s (k := 0) hs (by decide) h)))))⟩
theorem yw_r {post : SY → Prop} {s : Nat} (hs : s < 16) (h : wY_weigh_55 post (nI s) dl ca sn bm dn wc nb ns ba ds mk vt bo ys yv nt (wb_y yz ba ds mk s) 1 (gy_a (tv_s ds mk s)).1 (gy_a (tv_s ds mk s)).2 (nI 4)) : wpY_weigh post (dl, ca, sn, bm, dn, wc, nb, ns, ba, ds, mk, vt, bo, ys, yv, nt, yz) (nI s) :=
  ⟨7, yw_s (k := 0) hs (by decide) (yw_s (k := 1) hs (by decide) (yw_s (k := 2) hs (by decide) (yw_s (k := 3) hs (by decide) (yw_s (k := 4) hs (by decide) (yw_s (k := 5) hs (by decide) (br_t (by decide) ⟨5, y5_s (k := 0) (p := (-1, -1)) hs (by decide) (y5_s (k := 1) hs (by decide) (y5_s (k := 2) hs (by decide) (y5_s (k := 3) hs (by decide) h)))⟩))))))⟩
theorem lo_4 {s : Nat} (h : lo_v ds mk s = 0) : (if tv_s ds mk s 0 = 0 then 1 else 0) + (if tv_s ds mk s 1 = 0 then 1 else 0) + (if tv_s ds mk s 2 = 0 then 1 else 0) + (if tv_s ds mk s 3 = 0 then 1 else 0) ≤ 2 := by
  have h2 : cm_x ds mk s 6 ≤ 2 := by
    unfold lo_v at h
    by_cases c : cm_x ds mk s 6 ≤ 2
    · exact c
    · rw [if_neg c] at h; exact absurd h (by decide)
  rw [← cm_e] at h2
  simp only [cm_y] at h2
  unfold tv_s
  omega
theorem by_g {a b : Nat → Int32} (h : ag_6 a b) (hb : by_6 b) : by_6 a := fun j hj => by rw [h j hj]; exact hb j hj
theorem ag_s {a b : Nat → Int32} (h : ag_6 a b) : ag_6 b a := fun j hj => (h j hj).symm
theorem ag_t {a b c : Nat → Int32} (h : ag_6 a b) (k : ag_6 b c) : ag_6 a c := fun j hj => (h j hj).trans (k j hj)
/-- both sides find the same worths of a stripe that isn't lost -/
theorem fw_r {s : Nat} (hs : s < 16) (hb : by_k ba) (hl : lo_v ds mk s = 0) : ∃ wo' yz' : Nat → Int32, ag_6 wo' yz' ∧ by_6 wo' ∧ (∀ post : SX → Prop, post (wc, dl, ns, nb, ca, dn, sn, bm, ba, ds, mk, wo', vt, bo, us, ws, wv, nt) → wpX_findWorths post (wc, dl, ns, nb, ca, dn, sn, bm, ba, ds, mk, wo, vt, bo, us, ws, wv, nt) (nI s)) ∧ (∀ post : SY → Prop, post (dl, ca, sn, bm, dn, wc, nb, ns, ba, ds, mk, vt, bo, ys, yv, nt, yz') → wpY_weigh post (dl, ca, sn, bm, dn, wc, nb, ns, ba, ds, mk, vt, bo, ys, yv, nt, yz) (nI s)) := by
  have hB : by_6 (bs_v ba ds mk s) := fun j _ => bs_b hs hb j
  have hX := wb_ax (wo := wo) (ba := ba) (ds := ds) (mk := mk) (s := s)
  have hY := wb_ay (yz := yz) (ba := ba) (ds := ds) (mk := mk) (s := s)
  have hXY := ag_t hX (ag_s hY)
  have bX := by_g hX hB
  have bY := by_g hY hB
  have z0 : ∀ g, g < 4 → tv_s ds mk s g = 0 → wb_y yz ba ds mk s g = 0 := by
    intro g hg h
    rw [hY g (by omega), bs_v]
    exact if_pos h
  rcases gc_r (tv_s ds mk s) (lo_4 hl) with ⟨e1, e2⟩ | ⟨g, hg, tg, e1, e2⟩ | ⟨g, k, hgk, hk, tg, tk, e1, e2⟩
  · refine ⟨fn_2 (th_v ds mk ((s + 5) % 6) s) (fn_1 (th_v ds mk ((s + 4) % 6) s) (wb_x wo ba ds mk s)), fn_2 (th_v ds mk ((s + 5) % 6) s) (fn_1 (th_v ds mk ((s + 4) % 6) s) (wb_y yz ba ds mk s)), ?_, ?_, fun post hp => xw_r hs ?_, fun post hp => yw_r hs ?_⟩
    rotate_left 2
    · rw [e1]; exact xe_0 hs hp
    · rw [e2]; exact ye_0 hs hp
    · exact ag_f2 (ag_f1 hXY)
    · exact by_f2 (by_f1 bX)
  · have zg := z0 g hg tg
    by_cases hP : th_v ds mk ((s + 4) % 6) s = 0
    · -- by Q
      obtain ⟨x0, hx, hq, hu⟩ := sol_1 hg (is_bx (bY 5 (by decide)) (by_P bY))
      have hqX : wb_x wo ba ds mk s 5 ^^^ sm_P (wb_x wo ba ds mk s) = wb_y yz ba ds mk s 5 ^^^ sm_P (wb_y yz ba ds mk s) := by
        rw [hXY 5 (by decide), ag_P hXY]
      refine ⟨fn_2 (th_v ds mk ((s + 5) % 6) s) (fn_1 (th_v ds mk ((s + 4) % 6) s) (upd (wb_x wo ba ds mk s) g (nI x0))), fn_2 (th_v ds mk ((s + 5) % 6) s) (fn_1 (th_v ds mk ((s + 4) % 6) s) (upd (wb_y yz ba ds mk s) g (nI x0))), ?_, ?_, fun post hp => xw_r hs ?_, fun post hp => yw_r hs ?_⟩
      rotate_left 2
      · rw [e1]; exact xe_q hs hg hP hx (by rw [hqX]; exact hu) (by rw [hqX]; exact hq) hp
      · rw [e2]
        have h0 := y1_q (post := post) (yz := wb_y yz ba ds mk s) (g := g) (x0 := x0) (tP := th_v ds mk ((s + 4) % 6) s) (tQ := th_v ds mk ((s + 5) % 6) s) (m := -1) rb_n1lt hg hx hP (by rw [sm_Pu hg zg, xo_r]; exact hq) (fun y hy c => by
          rw [sm_Pu hg zg, xo_r] at c
          have := hu y (by omega) c
          omega) hp x0 0 (wb_y yz ba ds mk s g) (by omega)
        rw [rb_ui] at h0
        exact ye_g hs hg h0
      · exact ag_f2 (ag_f1 (ag_u hXY rfl))
      · exact by_f2 (by_f1 (by_u bX ⟨x0, hx, rfl⟩))
    · -- by P
      obtain ⟨x0, hx, hq⟩ := is_bx (bY 4 (by decide)) (by_D bY)
      have hqX : wb_x wo ba ds mk s 4 ^^^ sm_D (wb_x wo ba ds mk s) = nI x0 := by
        rw [hXY 4 (by decide), ag_D hXY]; exact hq
      refine ⟨fn_2 (th_v ds mk ((s + 5) % 6) s) (fn_1 (th_v ds mk ((s + 4) % 6) s) (upd (wb_x wo ba ds mk s) g ((wb_x wo ba ds mk s) 4 ^^^ sm_D (wb_x wo ba ds mk s)))), fn_2 (th_v ds mk ((s + 5) % 6) s) (fn_1 (th_v ds mk ((s + 4) % 6) s) (upd (wb_y yz ba ds mk s) g (nI x0))), ?_, ?_, fun post hp => xw_r hs ?_, fun post hp => yw_r hs ?_⟩
      rotate_left 2
      · rw [e1]; exact xe_p hs hg hP hp
      · rw [e2]
        have h0 := y1_p (post := post) (yz := wb_y yz ba ds mk s) (g := g) (x0 := x0) (tP := th_v ds mk ((s + 4) % 6) s) (tQ := th_v ds mk ((s + 5) % 6) s) (m := -1) rb_n1lt hg hx hP (by rw [sm_Du hg zg, xo_r]; exact hq.symm) (fun y hy c => by
          rw [sm_Du hg zg, xo_r, hq] at c
          have := (nI_eq (by omega) (by omega)).mp c
          omega) hp x0 0 (wb_y yz ba ds mk s g) (by omega)
        rw [rb_ui] at h0
        exact ye_g hs hg h0
      · exact ag_f2 (ag_f1 (ag_u hXY hqX))
      · exact by_f2 (by_f1 (by_u bX (by rw [hqX]; exact ⟨x0, hx, rfl⟩)))
  · have zg := z0 g (by omega) tg
    have zk := z0 k hk tk
    obtain ⟨x0, hx, hq, hu⟩ := sol_2 hgk hk (is_bx (bY 4 (by decide)) (by_D bY)) (is_bx (bY 5 (by decide)) (by_P bY))
    have hqX : wb_x wo ba ds mk s 5 ^^^ sm_P (wb_x wo ba ds mk s) = wb_y yz ba ds mk s 5 ^^^ sm_P (wb_y yz ba ds mk s) := by
      rw [hXY 5 (by decide), ag_P hXY]
    have hpX : wb_x wo ba ds mk s 4 ^^^ sm_D (wb_x wo ba ds mk s) = wb_y yz ba ds mk s 4 ^^^ sm_D (wb_y yz ba ds mk s) := by
      rw [hXY 4 (by decide), ag_D hXY]
    have hv : ∀ y : Int32, y2_v (wb_y yz ba ds mk s) g k y = (wb_y yz ba ds mk s 4 ^^^ sm_D (wb_y yz ba ds mk s)) ^^^ y := by
      intro y
      have e : upd (upd (wb_y yz ba ds mk s) g y) k 0 = upd (wb_y yz ba ds mk s) g y := by
        have := rb_ui (f := upd (wb_y yz ba ds mk s) g y) (k := k)
        rw [pk_un (by omega), zk] at this
        exact this
      rw [y2_v, e, sm_Du (by omega) zg]
      ac_rfl
    have hw : ∀ y : Int32, sm_P (upd (upd (wb_y yz ba ds mk s) g y) k (y2_v (wb_y yz ba ds mk s) g k y)) = wb_y yz ba ds mk s 5 ↔ gf_d g y ^^^ gf_d k ((wb_y yz ba ds mk s 4 ^^^ sm_D (wb_y yz ba ds mk s)) ^^^ y) = wb_y yz ba ds mk s 5 ^^^ sm_P (wb_y yz ba ds mk s) := by
      intro y
      rw [sm_Pu hk (by rw [pk_un (by omega)]; exact zk), sm_Pu (by omega) zg, hv, ← Int32.xor_assoc, xo_r, Int32.xor_comm (gf_d k _)]
    refine ⟨fn_2 (th_v ds mk ((s + 5) % 6) s) (fn_1 (th_v ds mk ((s + 4) % 6) s) (upd (upd (wb_x wo ba ds mk s) g (nI x0)) k (((wb_x wo ba ds mk s) 4 ^^^ sm_D (wb_x wo ba ds mk s)) ^^^ nI x0))), fn_2 (th_v ds mk ((s + 5) % 6) s) (fn_1 (th_v ds mk ((s + 4) % 6) s) (upd (upd (wb_y yz ba ds mk s) g (nI x0)) k (y2_v (wb_y yz ba ds mk s) g k (nI x0)))), ?_, ?_, fun post hp => xw_r hs ?_, fun post hp => yw_r hs ?_⟩
    rotate_left 2
    · rw [e1]; exact xe_2 hs (by omega) hk hx (by rw [hqX, hpX]; exact hu) (by rw [hqX, hpX]; exact hq) hp
    · rw [e2]
      have h0 := y2_l (post := post) (yz := wb_y yz ba ds mk s) (g := g) (k := k) (x0 := x0) (tP := th_v ds mk ((s + 4) % 6) s) (tQ := th_v ds mk ((s + 5) % 6) s) hgk hk hx ((hw _).mpr hq) (fun y hy c => by
        have := hu y (by omega) ((hw _).mp c)
        omega) hp x0 0 (wb_y yz ba ds mk s g) (wb_y yz ba ds mk s k) (by omega)
      have e3 : upd (upd (wb_y yz ba ds mk s) g (wb_y yz ba ds mk s g)) k (wb_y yz ba ds mk s k) = wb_y yz ba ds mk s := by rw [rb_ui, rb_ui]
      rw [e3] at h0
      exact ye_g hs (by omega) h0
    · exact ag_f2 (ag_f1 (ag_u (ag_u hXY rfl) (by rw [hpX, hv])))
    · exact by_f2 (by_f1 (by_u (by_u bX ⟨x0, hx, rfl⟩) (is_bx (by rw [hpX]; exact is_bx (bY 4 (by decide)) (by_D bY)) ⟨x0, hx, rfl⟩)))
end
end
section
section
variable {wc dl ns nb ca dn sn bm : Int32} {ba ds mk wo vt bo us ws wv nt ys yv yz : Nat → Int32}
/-! what the relation holds -/
def dk_k (ds mk : Nat → Int32) : Prop := ∀ j : Nat, j < 6 → ∃ m : Nat, m ≤ 16 ∧ mk j = nI m ∧ (ds j = 2 → m < 16)
def bo_k (bo : Nat → Int32) : Prop := ∀ j : Nat, j < 120 → bo j = -1 ∨ ∃ b : Nat, b < 64 ∧ bo j = nI b
def ct_n (bo : Nat → Int32) (x : Int32) : Nat → Nat
  | 0 => 0
  | n + 1 => ct_n bo x n + if bo n = x then 1 else 0
def us_k (us bo : Nat → Int32) : Prop := ∀ b : Nat, b < 64 → us b = nI (ct_n bo (nI b) 120)
def wt_k (w : Nat) (ws wv ys yv : Nat → Int32) : Prop := (∀ i : Nat, i < w → ys i = ws i ∧ yv i = wv i ∧ (∃ l : Nat, l < 120 ∧ ws i = nI l) ∧ is_b (wv i)) ∧ (∀ i j : Nat, i < j → j < w → ws i ≠ ws j)
def nt_k (nt : Nat → Int32) : Prop := ∀ i : Nat, i < 3 → is_b (nt i)
def ca_k (ca : Int32) : Prop := ca = -1 ∨ ∃ c : Nat, c < 3 ∧ ca = nI c
def rl_i (w d s b c : Nat) (ca : Int32) (ba ds mk bo us ws wv ys yv nt : Nat → Int32) : Prop :=
  w ≤ d ∧ d ≤ 6 ∧ s < 120 ∧ b < 64 ∧ c < 16 ∧ ca_k ca ∧ by_k ba ∧ dk_k ds mk ∧ bo_k bo ∧ us_k us bo ∧ wt_k w ws wv ys yv ∧ nt_k nt
def rl_s (u : SX) (v : SY) : Prop := ∃ (w d s b c : Nat) (ca dn bm : Int32) (ba ds mk wo vt bo us ws wv nt ys yv yz : Nat → Int32), u = (nI w, nI d, nI s, nI b, ca, dn, nI c, bm, ba, ds, mk, wo, vt, bo, us, ws, wv, nt) ∧ v = (nI d, ca, nI c, bm, dn, nI w, nI b, nI s, ba, ds, mk, vt, bo, ys, yv, nt, yz) ∧ rl_i w d s b c ca ba ds mk bo us ws wv ys yv nt
/-! how many lblocks are on a block -/
theorem ct_le (x : Int32) : ∀ n : Nat, ct_n bo x n ≤ n := by
  intro n
  induction n with
  | zero => exact Nat.le_refl 0
  | succ n ih =>
    show ct_n bo x n + (if _ then 1 else 0) ≤ n + 1
    split <;> omega
theorem ct_u0 {l : Nat} {x y : Int32} : ∀ n : Nat, n ≤ l → ct_n (upd bo l x) y n = ct_n bo y n := by
  intro n
  induction n with
  | zero => intro _; rfl
  | succ n ih =>
    intro h
    show ct_n (upd bo l x) y n + (if (upd bo l x) n = y then 1 else 0) = ct_n bo y n + (if bo n = y then 1 else 0)
    rw [ih (by omega), pk_un (by omega)]
theorem ct_u {l : Nat} {x y : Int32} : ∀ n : Nat, l < n → ct_n (upd bo l x) y n + (if bo l = y then 1 else 0) = ct_n bo y n + (if x = y then 1 else 0) := by
  intro n
  induction n with
  | zero => intro h; omega
  | succ n ih =>
    intro h
    show ct_n (upd bo l x) y n + (if (upd bo l x) n = y then 1 else 0) + (if bo l = y then 1 else 0) = ct_n bo y n + (if bo n = y then 1 else 0) + (if x = y then 1 else 0)
    by_cases c : l = n
    · rw [← c, pk_us, ct_u0 l (Nat.le_refl l)]
      omega
    · rw [pk_un (by omega)]
      have := ih (by omega)
      omega
theorem ct_1 {l : Nat} {y : Int32} (h : bo l = y) : ∀ n : Nat, l < n → 1 ≤ ct_n bo y n := by
  intro n
  induction n with
  | zero => intro h; omega
  | succ n ih =>
    intro hn
    show 1 ≤ ct_n bo y n + (if bo n = y then 1 else 0)
    by_cases c : l = n
    · rw [← c, if_pos h]; omega
    · have := ih (by omega)
      omega
theorem yu_l {post : Int32 → Prop} {x : Int32} (h : post (nI (ct_n bo x 120))) : ∀ e i : Nat, i + e = 120 → wY_users_4 post x dl ca sn bm dn wc nb ns ba ds mk vt bo ys yv nt yz (e + 1) (nI (ct_n bo x i)) (nI i) := by
  intro e
  induction e with
  | zero =>
    intro i hi
    rw [show i = 120 by omega]
    exact br_t (by decide) h
  | succ e ih =>
    intro i hi
    have ih := ih (i + 1) (by omega)
    refine br_f (nI_ge (b := 120) (by omega) (by decide)) ⟨vp_in_nI (by omega) (by omega), ?_⟩
    rw [nI_clamp (by omega)]
    have e1 : ct_n bo x (i + 1) = ct_n bo x i + if bo i = x then 1 else 0 := rfl
    rw [e1] at ih
    refine br_c (fun z => nm_r (nI_1 _) (nm_r (nI_1 i) ?_)) (fun z => nm_r (nI_1 i) ?_)
    · rw [if_pos z] at ih; exact ih
    · rw [if_neg z] at ih; exact ih
theorem yu_r {post : Int32 → Prop} {x : Int32} (h : post (nI (ct_n bo x 120))) : wpY_users post (dl, ca, sn, bm, dn, wc, nb, ns, ba, ds, mk, vt, bo, ys, yv, nt, yz) x := ⟨121, yu_l h 120 0 (by omega)⟩
/-! an lblock comes to be on a block -/
def pu_d (us : Nat → Int32) (o : Int32) : Nat → Int32 := if o < 0 then us else upd us o.toNatClampNeg (us o.toNatClampNeg - 1)
def pu_i (us : Nat → Int32) (x : Int32) : Nat → Int32 := if x < 0 then us else upd us x.toNatClampNeg (us x.toNatClampNeg + 1)
def bk_k (x : Int32) : Prop := x = -1 ∨ ∃ b : Nat, b < 64 ∧ x = nI b
theorem bk_in {x : Int32} (h : bk_k x) (hn : ¬ x < 0) : vp_in x 64 := by
  rcases h with rfl | ⟨b, hb, rfl⟩
  · exact absurd rb_n1lt hn
  · exact vp_in_nI hb (by omega)
theorem xo_u {post : SX → Prop} {l : Nat} {x : Int32} (hl : l < 120) (hx : bk_k x) (h : post (wc, dl, ns, nb, ca, dn, sn, bm, ba, ds, mk, wo, vt, upd bo l x, pu_i us x, ws, wv, nt)) : wX_putOn_21 post (nI l) x wc dl ns nb ca dn sn bm ba ds mk wo vt bo us ws wv nt := by
  unfold pu_i at h
  refine br_c (fun z => ⟨vp_in_nI hl (by omega), ?_⟩) (fun z => ⟨bk_in hx z, bk_in hx z, nm_e ⟨vp_in_nI hl (by omega), ?_⟩⟩)
  · rw [nI_clamp (by omega)]
    rw [if_pos z] at h
    exact nm_e h
  · rw [nI_clamp (by omega)]
    rw [if_neg z] at h
    exact nm_e h
theorem xo_p {post : SX → Prop} {l : Nat} {x : Int32} (hl : l < 120) (hx : bk_k x) (hb : bo_k bo) (h : post (wc, dl, ns, nb, ca, dn, sn, bm, ba, ds, mk, wo, vt, upd bo l x, pu_i (pu_d us (bo l)) x, ws, wv, nt)) : wpX_putOn post (wc, dl, ns, nb, ca, dn, sn, bm, ba, ds, mk, wo, vt, bo, us, ws, wv, nt) (nI l) x := by
  refine ⟨vp_in_nI hl (by omega), ?_⟩
  rw [nI_clamp (by omega)]
  unfold pu_d at h
  refine nm_e (br_c (fun z => xo_u hl hx ?_) (fun z => ⟨bk_in (hb l hl) z, bk_in (hb l hl) z, nm_e (xo_u hl hx ?_)⟩))
  · rw [if_pos z] at h; exact h
  · rw [if_neg z] at h; exact h
theorem rb_p1 {a : Nat} (h : 1 ≤ a) : nI a - 1 = nI (a - 1) := by
  obtain ⟨c, rfl⟩ : ∃ c, a = c + 1 := ⟨a - 1, by omega⟩
  exact nI_pred c
theorem nb_e {a b : Nat} (ha : a < 64) (hb : b < 64) : nI a = nI b ↔ a = b := nI_eq (by omega) (by omega)
theorem nb_n {b : Nat} (hb : b < 64) : ¬ (-1 : Int32) = nI b := fun e => rb_ne1 (a := b) (by omega) e.symm
theorem us_p {l : Nat} {x : Int32} (hl : l < 120) (hx : bk_k x) (hb : bo_k bo) (hu : us_k us bo) : us_k (pu_i (pu_d us (bo l)) x) (upd bo l x) := by
  intro b hb6
  have hc := ct_u (bo := bo) (l := l) (x := x) (y := nI b) 120 hl
  have h1 := hu b hb6
  have dec : pu_d us (bo l) b = nI (ct_n bo (nI b) 120 - if bo l = nI b then 1 else 0) := by
    unfold pu_d
    rcases hb l hl with e | ⟨o, ho, e⟩
    · rw [e, if_pos rb_n1lt, if_neg (nb_n hb6), h1]; rfl
    · rw [e, if_neg (nI_pos (by omega)), nI_clamp (by omega)]
      by_cases c : o = b
      · rw [c, pk_us, if_pos rfl, h1, rb_p1 (ct_1 (l := l) (by rw [e, c]) 120 hl)]
      · rw [pk_un (by omega), if_neg (fun z => c ((nb_e ho hb6).mp z)), h1]; rfl
  have hle : (if bo l = nI b then 1 else 0) ≤ ct_n bo (nI b) 120 := by
    by_cases c : bo l = nI b
    · rw [if_pos c]; exact ct_1 c 120 hl
    · rw [if_neg c]; omega
  unfold pu_i
  rcases hx with rfl | ⟨n, hn, rfl⟩
  · rw [if_pos rb_n1lt, dec]
    rw [if_neg (nb_n hb6)] at hc
    congr 1
    omega
  · rw [if_neg (nI_pos (by omega)), nI_clamp (by omega)]
    by_cases c : n = b
    · rw [c, pk_us, dec, nI_1]
      rw [if_pos (congrArg nI c : nI n = nI b)] at hc
      rw [c] at hc
      congr 1
      omega
    · rw [pk_un (by omega), dec]
      rw [if_neg (fun z => c ((nb_e hn hb6).mp z))] at hc
      congr 1
      omega
theorem bo_p {l : Nat} {x : Int32} (hx : bk_k x) (hb : bo_k bo) : bo_k (upd bo l x) := by
  intro j hj
  unfold upd
  by_cases c : j = l
  · rw [if_pos c]; exact hx
  · rw [if_neg c]; exact hb j hj
/-! the block that a writing goes to -/
theorem bw_l (hu : us_k us bo) {l : Int32} : ∀ e i : Nat, i + e = 64 → ∃ b : Nat, b ≤ 64 ∧ (∀ post : Int32 → Prop, post (if b = 64 then -1 else nI b) → wX_blockToWrite_25 post wc dl ns nb ca dn sn bm ba ds mk wo vt bo us ws wv nt (e + 1) (nI i)) ∧ (∀ (post : Int32 → SY → Prop) (v : Int32), wY_writeNow_42 post l v (nI b) dl ca sn bm dn wc nb ns ba ds mk vt bo ys yv nt yz → wY_writeNow_22 post l v dl ca sn bm dn wc nb ns ba ds mk vt bo ys yv nt yz (e + 1) (nI i)) := by
  intro e
  induction e with
  | zero =>
    intro i hi
    rw [show i = 64 by omega]
    exact ⟨64, by decide, fun post h => br_t (by decide) h, fun post v h => br_t (by decide) h⟩
  | succ e ih =>
    intro i hi
    have h1 := hu i (by omega)
    have hle := ct_le (bo := bo) (nI i) 120
    have h64 : ¬ (64 : Int32) ≤ nI i := nI_ge (b := 64) (by omega) (by decide)
    by_cases z : ct_n bo (nI i) 120 = 0
    · refine ⟨i, by omega, fun post h => br_f h64 ⟨vp_in_nI (by omega) (by omega), ?_⟩, fun post v h => br_f h64 (yu_r (br_t ?_ h))⟩
      · rw [if_neg (by omega)] at h
        rw [nI_clamp (by omega), h1, z]
        exact br_t rfl h
      · rw [z]; decide
    · obtain ⟨b, hb, hX, hY⟩ := ih (i + 1) (by omega)
      refine ⟨b, hb, fun post h => br_f h64 ⟨vp_in_nI (by omega) (by omega), ?_⟩, fun post v h => br_f h64 (yu_r (br_f (nI_nle (by omega) (by omega)) (nm_r (nI_1 i) (hY post v h))))⟩
      rw [nI_clamp (by omega), h1]
      exact br_f (nI_ne0 (by omega) (by omega)) (nm_r (nI_1 i) (hX post h))
theorem bw_r {l : Nat} (hl : l < 120) (hb : bo_k bo) (hu : us_k us bo) : ∃ b : Nat, b ≤ 64 ∧ (∀ post : Int32 → Prop, post (if b = 64 then -1 else nI b) → wpX_blockToWrite post (wc, dl, ns, nb, ca, dn, sn, bm, ba, ds, mk, wo, vt, bo, us, ws, wv, nt) (nI l)) ∧ (∀ (post : Int32 → SY → Prop) (v : Int32), wY_writeNow_42 post (nI l) v (nI b) dl ca sn bm dn wc nb ns ba ds mk vt bo ys yv nt yz → wpY_writeNow post (dl, ca, sn, bm, dn, wc, nb, ns, ba, ds, mk, vt, bo, ys, yv, nt, yz) (nI l) v) := by
  obtain ⟨b, hb64, hX, hY⟩ := bw_l (l := nI l) (wc := wc) (dl := dl) (ns := ns) (nb := nb) (ca := ca) (dn := dn) (sn := sn) (bm := bm) (ba := ba) (ds := ds) (mk := mk) (wo := wo) (vt := vt) (ws := ws) (wv := wv) (nt := nt) (ys := ys) (yv := yv) (yz := yz) hu 64 0 (by omega)
  rcases hb l hl with e | ⟨o, ho, e⟩
  · refine ⟨b, hb64, fun post h => ⟨vp_in_nI hl (by omega), ?_⟩, fun post v h => ⟨vp_in_nI hl (by omega), ?_⟩⟩
    · rw [nI_clamp (by omega), e]
      exact nm_e (br_t rb_n1lt ⟨65, hX post h⟩)
    · rw [nI_clamp (by omega), e]
      exact nm_e (br_t rb_n1lt ⟨65, hY post v h⟩)
  · have h1 := hu o ho
    have hle := ct_le (bo := bo) (nI o) 120
    have hge := ct_1 e 120 hl
    by_cases c : ct_n bo (nI o) 120 = 1
    · refine ⟨o, by omega, fun post h => ⟨vp_in_nI hl (by omega), ?_⟩, fun post v h => ⟨vp_in_nI hl (by omega), ?_⟩⟩
      · rw [nI_clamp (by omega), e]
        refine nm_e (br_f (nI_pos (by omega)) ⟨vp_in_nI ho (by omega), ?_⟩)
        rw [nI_clamp (by omega), h1, c]
        rw [if_neg (by omega)] at h
        exact br_t rfl h
      · rw [nI_clamp (by omega), e]
        refine nm_e (br_f (nI_pos (by omega)) (yu_r ?_))
        rw [c]
        exact br_t (by decide) h
    · refine ⟨b, hb64, fun post h => ⟨vp_in_nI hl (by omega), ?_⟩, fun post v h => ⟨vp_in_nI hl (by omega), ?_⟩⟩
      · rw [nI_clamp (by omega), e]
        refine nm_e (br_f (nI_pos (by omega)) ⟨vp_in_nI ho (by omega), ?_⟩)
        rw [nI_clamp (by omega), h1]
        exact pk_eq (ct_n bo (nI o) 120) 1 (fun z => absurd z c) (fun _ => ⟨65, hX post h⟩)
      · rw [nI_clamp (by omega), e]
        exact nm_e (br_f (nI_pos (by omega)) (yu_r (pk_le (ct_n bo (nI o) 120) 1 (fun z => absurd z (by omega)) (fun _ => ⟨65, hY post v h⟩))))
end
end
section
section
variable {wc dl ns nb ca dn sn bm : Int32} {ba ds mk wo vt bo us ws wv nt ys yv yz : Nat → Int32}
/-! the noted bytes are put -/
def st_o (b i : Nat) : Nat := if i = 0 then b % 4 else 3 + i
def pt_z (ba ds mk : Nat → Int32) (s z : Nat) (x : Int32) : Nat → Int32 := if th_v ds mk ((s + z) % 6) s = 0 then ba else upd ba ((s + z) % 6 * 16 + s) x
def pt_a (ba ds mk nt : Nat → Int32) (b : Nat) : Nat → Nat → Int32
  | 0 => ba
  | i + 1 => pt_z (pt_a ba ds mk nt b i) ds mk (b / 4) (st_o b i) (nt i)
theorem pt_b {b : Nat} (hb : b < 64) (h : by_k ba) (hn : nt_k nt) : ∀ m : Nat, m ≤ 3 → by_k (pt_a ba ds mk nt b m) := by
  intro m
  induction m with
  | zero => intro _; exact h
  | succ m ih =>
    intro hm j hj
    show is_b (pt_z (pt_a ba ds mk nt b m) ds mk (b / 4) (st_o b m) (nt m) j)
    unfold pt_z
    split
    · exact ih (by omega) j hj
    · unfold upd
      split
      · exact hn m (by omega)
      · exact ih (by omega) j hj
theorem xn_37 {post : SX → Prop} {J : Int32 → (Nat → Int32) → (Nat → Int32) → (Nat → Int32) → (Nat → Int32) → (Nat → Int32) → (Nat → Int32) → (Nat → Int32) → (Nat → Int32) → (Nat → Int32) → (Nat → Int32) → Prop} {x1 : Int32} {s i z : Nat} (hs : s < 16) (hi : i < 3) (hz : z < 6) (h : J (nI (i + 1)) (pt_z ba ds mk s z (nt i)) ds mk wo vt bo us ws wv nt) : wX_putNoted_37 post J x1 (nI s) (nI i) (nI z) wc dl ns nb ca dn sn bm ba ds mk wo vt bo us ws wv nt := by
  refine ⟨rb_6, nm_r (rb_dk (by omega) (by omega)) (xt_r (Nat.mod_lt _ (by decide)) hs (br_c (fun c => nm_r (nI_1 i) ?_) (fun c => ⟨vp_in_nI hi (by omega), pk_in ((s + z) % 6 * 16 + s) 96 (by omega) (rb_cell _ _), ?_⟩)))⟩
  · rw [pt_z, if_pos c] at h; exact h
  · rw [pt_z, if_neg c] at h
    rw [rb_cell, nI_clamp (by omega), nI_clamp (by omega)]
    exact nm_e (nm_r (nI_1 i) h)
theorem rb_41 (i : Nat) : (4 + nI (i + 1)) - 1 = nI (3 + (i + 1)) := by
  rw [show (4 : Int32) = nI 4 from rfl, nI_add, show 4 + (i + 1) = (3 + (i + 1)) + 1 by omega, nI_pred]
theorem st_6 {b i : Nat} (hi : i < 3) : st_o b i < 6 := by
  unfold st_o
  split <;> omega
theorem xn_l {post : SX → Prop} {b m : Nat} (hb : b < 64) (hm : m ≤ 3) (h : post (wc, dl, ns, nI b, ca, dn, sn, bm, pt_a ba ds mk nt b m, ds, mk, wo, vt, bo, us, ws, wv, nt)) : ∀ e i : Nat, i + e = m → wX_putNoted_9 post (nI m) (nI (b / 4)) wc dl ns (nI b) ca dn sn bm (e + 1) (nI i) (pt_a ba ds mk nt b i) ds mk wo vt bo us ws wv nt := by
  intro e
  induction e with
  | zero =>
    intro i hi
    rw [show i = m by omega]
    exact br_t (nI_le (Nat.le_refl m) (by omega)) h
  | succ e ih =>
    intro i hi
    have ih := ih (i + 1) (by omega)
    refine br_f (nI_ge (by omega) (by omega)) (br_f (nI_ge (b := 3) (by omega) (by decide)) (pk_eq i 0 (fun z => ⟨rb_4, ?_⟩) (fun z => ?_)))
    · rw [rb_r4 (by omega)]
      have e1 : b % 4 = st_o b i := by rw [st_o, if_pos z]
      rw [e1]
      exact xn_37 (by omega) (by omega) (st_6 (by omega)) ih
    · obtain ⟨j, rfl⟩ : ∃ j, i = j + 1 := ⟨i - 1, by omega⟩
      rw [rb_41]
      have e1 : 3 + (j + 1) = st_o b (j + 1) := by rw [st_o, if_neg (by omega)]
      rw [e1]
      exact xn_37 (by omega) (by omega) (st_6 (by omega)) ih
theorem xn_r {post : SX → Prop} {b m : Nat} (hb : b < 64) (hm : m ≤ 3) (h : post (wc, dl, ns, nI b, ca, dn, sn, bm, pt_a ba ds mk nt b m, ds, mk, wo, vt, bo, us, ws, wv, nt)) : wpX_putNoted post (wc, dl, ns, nI b, ca, dn, sn, bm, ba, ds, mk, wo, vt, bo, us, ws, wv, nt) (nI m) :=
  ⟨rb_4, nm_r (rb_d4 (by omega)) ⟨m + 1, xn_l hb hm h m 0 (by omega)⟩⟩
theorem yp_u {post : SY → Prop} {s z : Nat} {x : Int32} (hs : s < 16) (hz : z < 6) (h : post (dl, ca, sn, bm, dn, wc, nb, ns, pt_z ba ds mk s z x, ds, mk, vt, bo, ys, yv, nt, yz)) : wpY_put post (dl, ca, sn, bm, dn, wc, nb, ns, ba, ds, mk, vt, bo, ys, yv, nt, yz) (nI s) (nI z) x := by
  unfold pt_z at h
  refine yh_r hs hz (br_c (fun c => ?_) (fun c => yc_r hs hz ⟨vp_in_nI (by omega) (by omega), ?_⟩))
  · rw [if_pos c] at h; exact h
  · rw [if_neg c] at h
    rw [nI_clamp (by omega)]
    exact nm_e h
theorem yn_3 {post : SY → Prop} {s z i : Nat} (hs : s < 16) (hz : z < 6) (hi : i < 3) (h : post (dl, ca, sn, bm, dn, wc, nb, ns, pt_z ba ds mk s z (nt i), ds, mk, vt, bo, ys, yv, nt, yz)) : wY_putNoted_30 post (nI i) (nI z) (nI s) dl ca sn bm dn wc nb ns ba ds mk vt bo ys yv nt yz := by
  refine ⟨vp_in_nI hi (by omega), ?_⟩
  rw [nI_clamp (by omega)]
  exact yp_u hs hz h
theorem yn_r {post : SY → Prop} {b i : Nat} (hb : b < 64) (hi : i < 3) (h : post (dl, ca, sn, bm, dn, wc, nI b, ns, pt_z ba ds mk (b / 4) (st_o b i) (nt i), ds, mk, vt, bo, ys, yv, nt, yz)) : wpY_putNoted post (dl, ca, sn, bm, dn, wc, nI b, ns, ba, ds, mk, vt, bo, ys, yv, nt, yz) (nI i) := by
  refine ⟨rb_4, ?_⟩
  rw [rb_d4 (by omega)]
  match i, hi with
  | 0, _ =>
    refine br_t rfl ⟨rb_4, ?_⟩
    rw [show nI b - nI (b / 4) * 4 = nI b - nI b / 4 * 4 by rw [rb_d4 (by omega)], rb_r4 (by omega)]
    exact yn_3 (by omega) (by omega) (by decide) h
  | 1, _ => exact br_f (by decide) (br_t rfl (yn_3 (z := 4) (i := 1) (by omega) (by decide) (by decide) h))
  | 2, _ => exact br_f (by decide) (br_f (by decide) (yn_3 (z := 5) (i := 2) (by omega) (by decide) (by decide) h))
theorem yn_w {post : Int32 → SY → Prop} {b l n i : Nat} {x : Int32} (hb : b < 64) (hi : i < 3) (h : wY_writeNow_176 post (nI l) x n (nI (i + 1)) dl ca sn bm dn wc (nI b) ns (pt_z ba ds mk (b / 4) (st_o b i) (nt i)) ds mk vt bo ys yv nt yz) : wY_writeNow_176 post (nI l) x (n + 1) (nI i) dl ca sn bm dn wc (nI b) ns ba ds mk vt bo ys yv nt yz :=
  br_f (nI_ge (b := 3) hi (by decide)) (yn_r hb hi (nm_r (nI_1 i) h))
theorem yn_c {post : Int32 → SY → Prop} {b c n i : Nat} (hb : b < 64) (hc : c < 3) (hi : i < c) (h : wY_writeNow_134 post n (nI (i + 1)) dl (nI c) sn bm dn wc (nI b) ns (pt_z ba ds mk (b / 4) (st_o b i) (nt i)) ds mk vt bo ys yv nt yz) : wY_writeNow_134 post (n + 1) (nI i) dl (nI c) sn bm dn wc (nI b) ns ba ds mk vt bo ys yv nt yz :=
  br_f (nI_ge hi (by omega)) (yn_r hb (by omega) (nm_r (nI_1 i) h))
theorem yn_v {post : Int32 → SY → Prop} {b n i : Nat} (hb : b < 64) (hi : i < 3) (h : wY_recover_16 post n (nI (i + 1)) dl ca sn bm dn wc (nI b) ns (pt_z ba ds mk (b / 4) (st_o b i) (nt i)) ds mk vt bo ys yv nt yz) : wY_recover_16 post (n + 1) (nI i) dl ca sn bm dn wc (nI b) ns ba ds mk vt bo ys yv nt yz :=
  br_f (nI_ge (b := 3) hi (by decide)) (yn_r hb hi (nm_r (nI_1 i) h))
/-! a writing is noted -/
theorem xnw_r {post : SX → Prop} {l b : Nat} {v : Int32} (hb : b < 64) (h : post (wc, dl, nI l, nI b, ca, dn, sn, bm, ba, ds, mk, upd wo (b % 4) v, vt, bo, us, ws, wv, upd (upd (upd nt 0 v) 1 (sm_D (upd wo (b % 4) v))) 2 (sm_P (upd wo (b % 4) v)))) : wpX_noteWriting post (wc, dl, ns, nb, ca, dn, sn, bm, ba, ds, mk, wo, vt, bo, us, ws, wv, nt) (nI l) (nI b) v := by
  refine ⟨rb_4, pk_in (b % 4) 6 (by omega) (rb_r4 (by omega)), ?_⟩
  rw [rb_r4 (by omega), nI_clamp (by omega)]
  exact nm_e (nm_e (xd_r (nm_e (xs_r (nm_e h)))))
theorem nt_p {a : Nat → Int32} {v : Int32} (ha : by_6 a) (hv : is_b v) : nt_k (upd (upd (upd nt 0 v) 1 (sm_D a)) 2 (sm_P a)) := by
  intro i hi
  match i, hi with
  | 0, _ => exact hv
  | 1, _ => exact by_D ha
  | 2, _ => exact by_P ha
/-- a writing: one answer, and related ends; those that wait stay where they are -/
theorem wn_r {w d s b c l : Nat} {v : Int32} (hl : l < 120) (hv : is_b v) (H : rl_i w d s b c ca ba ds mk bo us ws wv ys yv nt) : ∃ (r : Int32) (w' s' b' : Nat) (ca' dn' : Int32) (ba' wo' bo' us' nt' yz' : Nat → Int32), rl_i w' d s' b' c ca' ba' ds mk bo' us' ws wv ys yv nt' ∧ (r = 0 → w' = w) ∧ (∀ post : Int32 → SX → Prop, post r (nI w', nI d, nI s', nI b', ca', dn', nI c, bm, ba', ds, mk, wo', vt, bo', us', ws, wv, nt') → wpX_writeNow post (nI w, nI d, nI s, nI b, ca, dn, nI c, bm, ba, ds, mk, wo, vt, bo, us, ws, wv, nt) (nI l) v) ∧ (∀ post : Int32 → SY → Prop, post r (nI d, ca', nI c, bm, dn', nI w', nI b', nI s', ba', ds, mk, vt, bo', ys, yv, nt', yz') → wpY_writeNow post (nI d, ca, nI c, bm, dn, nI w, nI b, nI s, ba, ds, mk, vt, bo, ys, yv, nt, yz) (nI l) v) := by
  obtain ⟨hwd, hd, hs, hb, hc, hca, hby, hdk, hbo, hus, hwt, hnt⟩ := H
  obtain ⟨k, hk, hX, hY⟩ := bw_r (wc := nI w) (dl := nI d) (ns := nI s) (nb := nI b) (ca := ca) (dn := dn) (sn := nI c) (bm := bm) (ba := ba) (ds := ds) (mk := mk) (wo := wo) (vt := vt) (ws := ws) (wv := wv) (nt := nt) (ys := ys) (yv := yv) (yz := yz) hl hbo hus
  by_cases h64 : k = 64
  · refine ⟨-2, w, s, b, ca, dn, ba, wo, bo, us, nt, yz, ⟨hwd, hd, hs, hb, hc, hca, hby, hdk, hbo, hus, hwt, hnt⟩, fun _ => rfl, fun post hp => ?_, fun post hp => ?_⟩
    · refine hX _ ?_
      rw [if_pos h64]
      exact br_f rb_n1le hp
    · refine hY _ _ ?_
      rw [h64]
      exact br_t rfl hp
  · have hk4 : k / 4 < 16 := by omega
    by_cases hlo : lo_v ds mk (k / 4) = 0
    · obtain ⟨wo', yz', hag, hb6, fX, fY⟩ := fw_r (wc := nI w) (dl := nI d) (ns := nI s) (nb := nI b) (ca := ca) (dn := dn) (sn := nI c) (bm := bm) (wo := wo) (vt := vt) (bo := bo) (us := us) (ws := ws) (wv := wv) (nt := nt) (ys := ys) (yv := yv) (yz := yz) hk4 hby hlo
      have hag' : ag_6 (upd wo' (k % 4) v) (upd yz' (k % 4) v) := ag_u hag rfl
      have hntN := nt_p (nt := nt) (by_u (k := k % 4) hb6 hv) hv
      have hbN : bk_k (nI k) := Or.inr ⟨k, by omega, rfl⟩
      rcases hca with rfl | ⟨e, he, rfl⟩
      · refine ⟨0, w, l, k, -1, dn, pt_a ba ds mk (upd (upd (upd nt 0 v) 1 (sm_D (upd wo' (k % 4) v))) 2 (sm_P (upd wo' (k % 4) v))) k 3, upd wo' (k % 4) v, upd bo l (nI k), pu_i (pu_d us (bo l)) (nI k), upd (upd (upd nt 0 v) 1 (sm_D (upd wo' (k % 4) v))) 2 (sm_P (upd wo' (k % 4) v)), upd yz' (k % 4) v, ⟨hwd, hd, hl, by omega, hc, Or.inl rfl, pt_b (by omega) hby hntN 3 (by decide), hdk, bo_p hbN hbo, us_p hl hbN hbo hus, hwt, hntN⟩, fun _ => rfl, fun post hp => ?_, fun post hp => ?_⟩
        · refine hX _ ?_
          rw [if_neg h64]
          refine br_t (nI_pos' (by omega)) ⟨rb_4, ?_⟩
          rw [rb_d4 (by omega)]
          exact xl_r hk4 (br_t hlo ⟨rb_4, fX _ (xnw_r (by omega) (br_t rfl (xn_r (m := 3) (by omega) (by decide) (xo_p hl hbN hbo hp))))⟩)
        · refine hY _ _ (pk_eq k 64 (fun z => absurd z h64) (fun _ => ⟨rb_4, nm_r (rb_d4 (by omega)) ⟨rb_4, nm_r (rb_r4 (by omega)) (yl_r hk4 (br_t hlo (fY _ ⟨vp_in_nI (by omega) (by omega), ?_⟩)))⟩⟩))
          rw [nI_clamp (by omega)]
          refine nm_e (nm_e (yd_r (nm_e (ys_r (nm_e (br_t rb_n1lt ⟨4, ?_⟩))))))
          rw [← ag_D hag', ← ag_P hag']
          refine yn_w (i := 0) (by omega) (by decide) (yn_w (i := 1) (by omega) (by decide) (yn_w (i := 2) (by omega) (by decide) (br_t (by decide) ⟨vp_in_nI hl (by omega), ?_⟩)))
          rw [nI_clamp (by omega)]
          exact nm_e hp
      · refine ⟨-4, 0, l, k, -1, 1, pt_a ba ds mk (upd (upd (upd nt 0 v) 1 (sm_D (upd wo' (k % 4) v))) 2 (sm_P (upd wo' (k % 4) v))) k e, upd wo' (k % 4) v, bo, us, upd (upd (upd nt 0 v) 1 (sm_D (upd wo' (k % 4) v))) 2 (sm_P (upd wo' (k % 4) v)), upd yz' (k % 4) v, ⟨by omega, hd, hl, by omega, hc, Or.inl rfl, pt_b (by omega) hby hntN e (by omega), hdk, hbo, hus, ⟨fun i hi => absurd hi (by omega), fun i j _ hj => absurd hj (by omega)⟩, hntN⟩, fun z => absurd z (by decide), fun post hp => ?_, fun post hp => ?_⟩
        · refine hX _ ?_
          rw [if_neg h64]
          refine br_t (nI_pos' (by omega)) ⟨rb_4, ?_⟩
          rw [rb_d4 (by omega)]
          exact xl_r hk4 (br_t hlo ⟨rb_4, fX _ (xnw_r (by omega) (br_f (rb_ne1 (by omega)) (xn_r (m := e) (by omega) (by omega) hp)))⟩)
        · refine hY _ _ (pk_eq k 64 (fun z => absurd z h64) (fun _ => ⟨rb_4, nm_r (rb_d4 (by omega)) ⟨rb_4, nm_r (rb_r4 (by omega)) (yl_r hk4 (br_t hlo (fY _ ⟨vp_in_nI (by omega) (by omega), ?_⟩)))⟩⟩))
          rw [nI_clamp (by omega)]
          refine nm_e (nm_e (yd_r (nm_e (ys_r (nm_e (br_f (nI_pos (by omega)) ⟨e + 1, ?_⟩))))))
          rw [← ag_D hag', ← ag_P hag']
          match e, he with
          | 0, _ => exact br_t (by decide) hp
          | 1, _ => exact yn_c (i := 0) (by omega) (by decide) (by decide) (br_t (by decide) hp)
          | 2, _ => exact yn_c (i := 0) (by omega) (by decide) (by decide) (yn_c (i := 1) (by omega) (by decide) (by decide) (br_t (by decide) hp))
    · refine ⟨-3, w, s, b, ca, dn, ba, wo, bo, us, nt, yz, ⟨hwd, hd, hs, hb, hc, hca, hby, hdk, hbo, hus, hwt, hnt⟩, fun _ => rfl, fun post hp => ?_, fun post hp => ?_⟩
      · refine hX _ ?_
        rw [if_neg h64]
        refine br_t (nI_pos' (by omega)) ⟨rb_4, ?_⟩
        rw [rb_d4 (by omega)]
        exact xl_r hk4 (br_f hlo hp)
      · exact hY _ _ (pk_eq k 64 (fun z => absurd z h64) (fun _ => ⟨rb_4, nm_r (rb_d4 (by omega)) ⟨rb_4, nm_r (rb_r4 (by omega)) (yl_r hk4 (br_f hlo hp))⟩⟩))
end
end
section
section
variable {wc dl ns nb ca dn sn bm : Int32} {ba ds mk wo vt bo us ws wv nt ys yv yz : Nat → Int32}
/-! those that wait -/
theorem wa_l {w l : Nat} (hw : w ≤ 6) (hk : wt_k w ws wv ys yv) : ∀ e i : Nat, i + e = w → (∀ j : Nat, j < i → ws j ≠ nI l) → ∃ r : Int32, ((r = -1 ∧ ∀ j : Nat, j < w → ws j ≠ nI l) ∨ ∃ a : Nat, a < w ∧ r = nI a ∧ ws a = nI l) ∧ (∀ {dl ns nb ca dn sn bm : Int32} {ba ds mk wo vt bo us nt : Nat → Int32} (post : Int32 → Prop), post r → wX_waitingAt_2 post (nI l) (nI w) dl ns nb ca dn sn bm ba ds mk wo vt bo us ws wv nt (e + 1) (nI i)) ∧ (∀ {dl ca sn bm dn nb ns : Int32} {ba ds mk vt bo nt yz : Nat → Int32} (post : Int32 → Prop), post r → wY_findWaiting_2 post (nI l) dl ca sn bm dn (nI w) nb ns ba ds mk vt bo ys yv nt yz (e + 1) (nI i)) := by
  intro e
  induction e with
  | zero =>
    intro i hi hn
    have hi : i = w := by omega
    subst hi
    refine ⟨-1, Or.inl ⟨rfl, hn⟩, ?_, ?_⟩
    · intros; exact br_t (nI_le (Nat.le_refl i) (by omega)) (by assumption)
    · intros; exact br_t (nI_le (Nat.le_refl i) (by omega)) (by assumption)
  | succ e ih =>
    intro i hi hn
    have hk1 := hk.1 i (by omega)
    have hge : ¬ nI w ≤ nI i := nI_ge (by omega) (by omega)
    have hin : vp_in (nI i) 6 := vp_in_nI (by omega) (by omega)
    by_cases z : ws i = nI l
    · refine ⟨nI i, Or.inr ⟨i, by omega, rfl, z⟩, ?_, ?_⟩
      · intros
        refine br_f hge ⟨hin, ?_⟩
        rw [nI_clamp (by omega)]; exact br_t z (by assumption)
      · intros
        refine br_f hge ⟨hin, ?_⟩
        rw [nI_clamp (by omega), hk1.1]; exact br_t z (by assumption)
    · obtain ⟨r, hr, hX, hY⟩ := ih (i + 1) (by omega) (fun j hj => by
        by_cases c : j = i
        · rw [c]; exact z
        · exact hn j (by omega))
      refine ⟨r, hr, ?_, ?_⟩
      · intros
        refine br_f hge ⟨hin, ?_⟩
        rw [nI_clamp (by omega)]
        refine br_f z (nm_r (nI_1 i) ?_)
        apply hX
        assumption
      · intros
        refine br_f hge ⟨hin, ?_⟩
        rw [nI_clamp (by omega), hk1.1]
        refine br_f z (nm_r (nI_1 i) ?_)
        apply hY
        assumption
theorem wa_r {w l : Nat} (hw : w ≤ 6) (hk : wt_k w ws wv ys yv) : ∃ r : Int32, ((r = -1 ∧ ∀ j : Nat, j < w → ws j ≠ nI l) ∨ ∃ a : Nat, a < w ∧ r = nI a ∧ ws a = nI l) ∧ (∀ {dl ns nb ca dn sn bm : Int32} {ba ds mk wo vt bo us nt : Nat → Int32} (post : Int32 → Prop), post r → wpX_waitingAt post (nI w, dl, ns, nb, ca, dn, sn, bm, ba, ds, mk, wo, vt, bo, us, ws, wv, nt) (nI l)) ∧ (∀ {dl ca sn bm dn nb ns : Int32} {ba ds mk vt bo nt yz : Nat → Int32} (post : Int32 → Prop), post r → wpY_findWaiting post (dl, ca, sn, bm, dn, nI w, nb, ns, ba, ds, mk, vt, bo, ys, yv, nt, yz) (nI l)) := by
  obtain ⟨r, hr, hX, hY⟩ := wa_l (l := l) hw hk w 0 (by omega) (fun j hj => absurd hj (by omega))
  refine ⟨r, hr, ?_, ?_⟩
  · intro dl ns nb ca dn sn bm ba ds mk wo vt bo us nt post h
    exact ⟨w + 1, hX post h⟩
  · intro dl ca sn bm dn nb ns ba ds mk vt bo nt yz post h
    exact ⟨w + 1, hY post h⟩
def sh_f (a : Nat → Int32) (i e : Nat) : Nat → Int32 := fun j => if i ≤ j ∧ j < e then a (j + 1) else a j
theorem sh_e {a : Nat → Int32} {i : Nat} : sh_f a i i = a := by
  funext j
  unfold sh_f
  rw [if_neg (by omega)]
theorem sh_s {a : Nat → Int32} {i e : Nat} (h : i < e) : sh_f (upd a i (a (i + 1))) (i + 1) e = sh_f a i e := by
  funext j
  unfold sh_f upd
  by_cases c : j = i
  · subst c
    rw [if_neg (by omega), if_pos rfl, if_pos ⟨Nat.le_refl j, h⟩]
  · by_cases d : i ≤ j ∧ j < e
    · rw [if_pos (by omega), if_neg (by omega), if_pos d]
    · rw [if_neg (by omega), if_neg c, if_neg d]
theorem xr_l {post : SX → Prop} {w : Nat} (hw : w < 6) : ∀ (e i : Nat) (ws wv : Nat → Int32), i + e = w → post (nI w, dl, ns, nb, ca, dn, sn, bm, ba, ds, mk, wo, vt, bo, us, sh_f ws i w, sh_f wv i w, nt) → wX_removeWaiting_12 post (nI w) dl ns nb ca dn sn bm (e + 1) (nI i) ba ds mk wo vt bo us ws wv nt := by
  intro e
  induction e with
  | zero =>
    intro i ws wv hi h
    have hi : i = w := by omega
    subst hi
    rw [sh_e, sh_e] at h
    exact br_t (nI_le (Nat.le_refl i) (by omega)) h
  | succ e ih =>
    intro i ws wv hi h
    have h1 : vp_in (nI i + 1) 6 := by rw [nI_1]; exact vp_in_nI (by omega) (by omega)
    have h0 : vp_in (nI i) 6 := vp_in_nI (by omega) (by omega)
    refine br_f (nI_ge (by omega) (by omega)) ⟨h1, h0, nm_e ⟨h1, h0, nm_e (nm_r (nI_1 i) ?_)⟩⟩
    rw [nI_1 i, nI_clamp (by omega), nI_clamp (by omega)]
    refine ih (i + 1) _ _ (by omega) ?_
    rw [sh_s (by omega), sh_s (by omega)]
    exact h
theorem xr_r {post : SX → Prop} {w a : Nat} (hw : w < 6) (ha : a ≤ w) (h : post (nI w, dl, ns, nb, ca, dn, sn, bm, ba, ds, mk, wo, vt, bo, us, sh_f ws a w, sh_f wv a w, nt)) : wpX_removeWaiting post (nI (w + 1), dl, ns, nb, ca, dn, sn, bm, ba, ds, mk, wo, vt, bo, us, ws, wv, nt) (nI a) :=
  nm_r (nI_pred w) ⟨w - a + 1, xr_l hw (w - a) a ws wv (by omega) h⟩
theorem yr_l {post : SY → Prop} {w : Nat} (hw : w < 6) : ∀ (e i : Nat) (ys yv : Nat → Int32), i + e = w → post (dl, ca, sn, bm, dn, nI w, nb, ns, ba, ds, mk, vt, bo, sh_f ys i w, sh_f yv i w, nt, yz) → wY_forget_12 post dl ca sn bm dn (nI w) nb ns (e + 1) (nI i) ba ds mk vt bo ys yv nt yz := by
  intro e
  induction e with
  | zero =>
    intro i ys yv hi h
    have hi : i = w := by omega
    subst hi
    rw [sh_e, sh_e] at h
    exact br_t (nI_le (Nat.le_refl i) (by omega)) h
  | succ e ih =>
    intro i ys yv hi h
    have h1 : vp_in (nI i + 1) 6 := by rw [nI_1]; exact vp_in_nI (by omega) (by omega)
    have h0 : vp_in (nI i) 6 := vp_in_nI (by omega) (by omega)
    refine br_f (nI_ge (by omega) (by omega)) ⟨h1, h0, nm_e ⟨h1, h0, nm_e (nm_r (nI_1 i) ?_)⟩⟩
    rw [nI_1 i, nI_clamp (by omega), nI_clamp (by omega)]
    refine ih (i + 1) _ _ (by omega) ?_
    rw [sh_s (by omega), sh_s (by omega)]
    exact h
theorem yr_r {post : SY → Prop} {w a : Nat} (hw : w < 6) (ha : a ≤ w) (h : post (dl, ca, sn, bm, dn, nI w, nb, ns, ba, ds, mk, vt, bo, sh_f ys a w, sh_f yv a w, nt, yz)) : wpY_forget post (dl, ca, sn, bm, dn, nI (w + 1), nb, ns, ba, ds, mk, vt, bo, ys, yv, nt, yz) (nI a) :=
  nm_r (nI_pred w) ⟨w - a + 1, yr_l hw (w - a) a ys yv (by omega) h⟩
theorem sh_lo {a : Nat → Int32} {i e j : Nat} (h : j < i) : sh_f a i e j = a j := if_neg (by omega)
theorem sh_hi {a : Nat → Int32} {i e j : Nat} (h : i ≤ j) (k : j < e) : sh_f a i e j = a (j + 1) := if_pos ⟨h, k⟩
theorem sh_at {a : Nat → Int32} {i e j : Nat} (k : j < e) : ∃ m : Nat, (m = j ∧ j < i ∨ m = j + 1 ∧ i ≤ j) ∧ ∀ a : Nat → Int32, sh_f a i e j = a m := by
  by_cases c : j < i
  · exact ⟨j, Or.inl ⟨rfl, c⟩, fun a => sh_lo c⟩
  · exact ⟨j + 1, Or.inr ⟨rfl, by omega⟩, fun a => sh_hi (by omega) k⟩
theorem wt_rm {w a : Nat} (ha : a ≤ w) (h : wt_k (w + 1) ws wv ys yv) : wt_k w (sh_f ws a w) (sh_f wv a w) (sh_f ys a w) (sh_f yv a w) := by
  refine ⟨fun i hi => ?_, fun i j hij hj => ?_⟩
  · obtain ⟨m, hm, e⟩ := sh_at (a := ws) (i := a) hi
    rw [e, e, e, e]
    exact h.1 m (by omega)
  · obtain ⟨m, hm, e⟩ := sh_at (a := ws) (i := a) (j := i) (e := w) (by omega)
    obtain ⟨n, hn, f⟩ := sh_at (a := ws) (i := a) hj
    rw [e, f]
    exact h.2 m n (by omega) (by omega)
theorem wt_no {w a : Nat} {x : Int32} (ha : a ≤ w) (h : wt_k (w + 1) ws wv ys yv) (hx : ws a = x) : ∀ j : Nat, j < w → sh_f ws a w j ≠ x := by
  intro j hj
  obtain ⟨m, hm, e⟩ := sh_at (a := ws) (i := a) hj
  rw [e, ← hx]
  by_cases c : m < a
  · exact h.2 m a c (by omega)
  · exact fun z => h.2 a m (by omega) (by omega) z.symm
theorem wt_ad {w l : Nat} {x : Int32} (hl : l < 120) (hx : is_b x) (h : wt_k w ws wv ys yv) (hn : ∀ j : Nat, j < w → ws j ≠ nI l) : wt_k (w + 1) (upd ws w (nI l)) (upd wv w x) (upd ys w (nI l)) (upd yv w x) := by
  refine ⟨fun i hi => ?_, fun i j hij hj => ?_⟩
  · by_cases c : i = w
    · rw [c, pk_us, pk_us, pk_us, pk_us]
      exact ⟨rfl, rfl, ⟨l, hl, rfl⟩, hx⟩
    · rw [pk_un c, pk_un c, pk_un c, pk_un c]
      exact h.1 i (by omega)
  · by_cases c : j = w
    · rw [c, pk_us, pk_un (by omega)]
      exact hn i (by omega)
    · rw [pk_un c, pk_un (by omega)]
      exact h.2 i j hij (by omega)
/-! an lblock that waits is forgotten -/
theorem fg_r {w l : Nat} (hw6 : w ≤ 6) (hwt : wt_k w ws wv ys yv) : ∃ (r : Int32) (w' : Nat) (ws' wv' ys' yv' : Nat → Int32), wt_k w' ws' wv' ys' yv' ∧ (∀ j : Nat, j < w' → ws' j ≠ nI l) ∧ (r < 0 → w' = w ∧ ws' = ws ∧ wv' = wv ∧ ys' = ys ∧ yv' = yv) ∧ (¬ r < 0 → w' + 1 = w ∧ ∃ a : Nat, a ≤ w' ∧ ws a = nI l ∧ ws' = sh_f ws a w' ∧ wv' = sh_f wv a w') ∧ (∀ {dl ns nb ca dn sn bm : Int32} {ba ds mk wo vt bo us nt : Nat → Int32} (post : SX → Prop), post (nI w', dl, ns, nb, ca, dn, sn, bm, ba, ds, mk, wo, vt, bo, us, ws', wv', nt) → wpX_forgetWaiting post (nI w, dl, ns, nb, ca, dn, sn, bm, ba, ds, mk, wo, vt, bo, us, ws, wv, nt) (nI l)) ∧ (∀ {dl ca sn bm dn nb ns : Int32} {ba ds mk vt bo nt yz : Nat → Int32} (post : Int32 → Prop), post r → wpY_findWaiting post (dl, ca, sn, bm, dn, nI w, nb, ns, ba, ds, mk, vt, bo, ys, yv, nt, yz) (nI l)) ∧ (¬ r < 0 → ∀ {dl ca sn bm dn nb ns : Int32} {ba ds mk vt bo nt yz : Nat → Int32} (post : SY → Prop), post (dl, ca, sn, bm, dn, nI w', nb, ns, ba, ds, mk, vt, bo, ys', yv', nt, yz) → wpY_forget post (dl, ca, sn, bm, dn, nI w, nb, ns, ba, ds, mk, vt, bo, ys, yv, nt, yz) r) := by
  obtain ⟨r, hr, hX, hY⟩ := wa_r (w := w) (l := l) hw6 hwt
  rcases hr with ⟨rfl, hn⟩ | ⟨a, ha, rfl, hl⟩
  · refine ⟨-1, w, ws, wv, ys, yv, hwt, hn, fun _ => ⟨rfl, rfl, rfl, rfl, rfl⟩, fun z => absurd rb_n1lt z, ?_, hY, fun z => absurd rb_n1lt z⟩
    intro dl ns nb ca dn sn bm ba ds mk wo vt bo us nt post hp
    exact hX _ (br_t rb_n1lt hp)
  · obtain ⟨m, rfl⟩ : ∃ m, w = m + 1 := ⟨w - 1, by omega⟩
    refine ⟨nI a, m, sh_f ws a m, sh_f wv a m, sh_f ys a m, sh_f yv a m, wt_rm (by omega) hwt, wt_no (by omega) hwt hl, fun z => absurd z (nI_pos (by omega)), fun _ => ⟨rfl, a, by omega, hl, rfl, rfl⟩, ?_, hY, ?_⟩
    · intro dl ns nb ca dn sn bm ba ds mk wo vt bo us nt post hp
      exact hX _ (br_f (nI_pos (by omega)) (xr_r (by omega) (by omega) hp))
    · intro _ dl ca sn bm dn nb ns ba ds mk vt bo nt yz post hp
      exact yr_r (by omega) (by omega) hp
/-! one that waits is written -/
theorem ww_r {w d s b c a : Nat} (ha : a < w) (H : rl_i w d s b c ca ba ds mk bo us ws wv ys yv nt) : ∃ (r : Int32) (w' s' b' : Nat) (ca' dn' : Int32) (ba' wo' bo' us' ws' wv' nt' ys' yv' yz' : Nat → Int32), rl_i w' d s' b' c ca' ba' ds mk bo' us' ws' wv' ys' yv' nt' ∧ (r = 0 → w' + 1 = w) ∧ (r = 0 → ws' = sh_f ws a w') ∧ (∀ post : Int32 → SX → Prop, post r (nI w', nI d, nI s', nI b', ca', dn', nI c, bm, ba', ds, mk, wo', vt, bo', us', ws', wv', nt') → wpX_writeWaiting post (nI w, nI d, nI s, nI b, ca, dn, nI c, bm, ba, ds, mk, wo, vt, bo, us, ws, wv, nt) (nI a)) ∧ (∀ post : Int32 → SY → Prop, post r (nI d, ca', nI c, bm, dn', nI w', nI b', nI s', ba', ds, mk, vt, bo', ys', yv', nt', yz') → wpY_turn post (nI d, ca, nI c, bm, dn, nI w, nI b, nI s, ba, ds, mk, vt, bo, ys, yv, nt, yz) (nI a)) := by
  have hw6 : w ≤ 6 := by have := H.1; have := H.2.1; omega
  have hka := H.2.2.2.2.2.2.2.2.2.2.1.1 a ha
  obtain ⟨hy, hyv, ⟨l, hl, hla⟩, hvb⟩ := hka
  obtain ⟨r, w', s', b', ca', dn', ba', wo', bo', us', nt', yz', R, hr, hX, hY⟩ := wn_r (v := wv a) (dn := dn) (bm := bm) (wo := wo) (vt := vt) (yz := yz) hl hvb H
  have hin : vp_in (nI a) 6 := vp_in_nI (by omega) (by omega)
  by_cases z : r = 0
  · have hw := hr z
    subst hw
    obtain ⟨m, rfl⟩ : ∃ m, w' = m + 1 := ⟨w' - 1, by omega⟩
    obtain ⟨hwd, hd, hs, hb, hc, hca, hby, hdk, hbo, hus, hwt, hnt⟩ := R
    refine ⟨r, m, s', b', ca', dn', ba', wo', bo', us', sh_f ws a m, sh_f wv a m, nt', sh_f ys a m, sh_f yv a m, yz', ⟨by omega, hd, hs, hb, hc, hca, hby, hdk, hbo, hus, wt_rm (by omega) hwt, hnt⟩, fun _ => rfl, fun _ => rfl, fun post hp => ⟨hin, hin, ?_⟩, fun post hp => ⟨hin, hin, ?_⟩⟩
    · rw [nI_clamp (by omega), hla]
      exact hX _ (br_t z (xr_r (by omega) (by omega) hp))
    · rw [nI_clamp (by omega), hy, hyv, hla]
      exact hY _ (br_t z (yr_r (by omega) (by omega) hp))
  · refine ⟨r, w', s', b', ca', dn', ba', wo', bo', us', ws, wv, nt', ys, yv, yz', R, fun h => absurd h z, fun h => absurd h z, fun post hp => ⟨hin, hin, ?_⟩, fun post hp => ⟨hin, hin, ?_⟩⟩
    · rw [nI_clamp (by omega), hla]
      exact hX _ (br_f z hp)
    · rw [nI_clamp (by omega), hy, hyv, hla]
      exact hY _ (br_f z hp)
end
end
section
section
variable {wc dl ns nb ca dn sn bm : Int32} {ba ds mk wo vt bo us ws wv nt ys yv yz : Nat → Int32}
/-! both sides end with one answer in related states -/
def si_m (WX : (Int32 → SX → Prop) → Prop) (WY : (Int32 → SY → Prop) → Prop) : Prop := ∃ (r : Int32) (u' : SX) (v' : SY), rl_s u' v' ∧ (∀ post : Int32 → SX → Prop, post r u' → WX post) ∧ (∀ post : Int32 → SY → Prop, post r v' → WY post)
theorem si_e {WX : (Int32 → SX → Prop) → Prop} {WY : (Int32 → SY → Prop) → Prop} (h : si_m WX WY) : WX (fun r u' => WY (fun r' v' => r' = r ∧ rl_s u' v')) := by
  obtain ⟨r, u', v', R, hX, hY⟩ := h
  exact hX _ (hY _ ⟨rfl, R⟩)
theorem rl_m {w d s b c : Nat} (H : rl_i w d s b c ca ba ds mk bo us ws wv ys yv nt) : rl_s (nI w, nI d, nI s, nI b, ca, dn, nI c, bm, ba, ds, mk, wo, vt, bo, us, ws, wv, nt) (nI d, ca, nI c, bm, dn, nI w, nI b, nI s, ba, ds, mk, vt, bo, ys, yv, nt, yz) :=
  ⟨w, d, s, b, c, ca, dn, bm, ba, ds, mk, wo, vt, bo, us, ws, wv, nt, ys, yv, yz, rfl, rfl, H⟩
theorem i5_6 {x : Int32} (h : nI 6 ≤ x) : (5 : Int32) < x := Int32.lt_of_lt_of_le (by decide) h
theorem ge_0 {x : Int32} (n : Nat) (hn : n < 2 ^ 31) (h : nI n ≤ x) : ¬ x < 0 := by
  intro z
  exact nI_pos (n := n) hn (Int32.lt_of_le_of_lt h z)
theorem vo_r (p0 : Int32) : ∃ r : Int32, (r = 0 ∨ (r = 1 ∧ ∃ v : Nat, v < 6 ∧ p0 = nI v)) ∧ (∀ {wc dl ns nb ca dn sn bm : Int32} {ba ds mk wo bo us ws wv nt : Nat → Int32} (post : Int32 → Prop), post r → wpX_isVolume post (wc, dl, ns, nb, ca, dn, sn, bm, ba, ds, mk, wo, vt, bo, us, ws, wv, nt) p0) ∧ (∀ {dl ca sn bm dn wc nb ns : Int32} {ba ds mk bo ys yv nt yz : Nat → Int32} (post : Int32 → Prop), post r → wpY_isVolume post (dl, ca, sn, bm, dn, wc, nb, ns, ba, ds, mk, vt, bo, ys, yv, nt, yz) p0) := by
  rcases pk_ix p0 (n := 6) (by decide) with h | h | ⟨j, hj, rfl⟩
  · refine ⟨0, Or.inl rfl, ?_, ?_⟩
    · intros; exact br_t h (by assumption)
    · intros; exact br_t h (br_t rfl (by assumption))
  · have h0 := ge_0 6 (by decide) h
    refine ⟨0, Or.inl rfl, ?_, ?_⟩
    · intros; exact br_f h0 (br_t h (by assumption))
    · intros; exact br_f h0 (br_t (i5_6 h) (br_t rfl (by assumption)))
  · have h0 : ¬ nI j < 0 := nI_pos (by omega)
    have h6 : ¬ (6 : Int32) ≤ nI j := nI_ge (b := 6) hj (by decide)
    have h5 : ¬ (5 : Int32) < nI j := nI_nlt (a := 5) (b := j) (by omega) (by decide)
    have hin : vp_in (nI j) 6 := vp_in_nI hj (by omega)
    by_cases z : vt j = 0
    · refine ⟨0, Or.inl rfl, ?_, ?_⟩
      · intros
        refine br_f h0 (br_f h6 ⟨hin, ?_⟩)
        rw [nI_clamp (by omega)]
        exact br_t z (by assumption)
      · intros
        refine br_f h0 (br_f h5 (br_f (by decide) ⟨hin, ?_⟩))
        rw [nI_clamp (by omega)]
        exact br_t z (by assumption)
    · refine ⟨1, Or.inr ⟨rfl, j, hj, rfl⟩, ?_, ?_⟩
      · intros
        refine br_f h0 (br_f h6 ⟨hin, ?_⟩)
        rw [nI_clamp (by omega)]
        exact br_f z (by assumption)
      · intros
        refine br_f h0 (br_f h5 (br_f (by decide) ⟨hin, ?_⟩))
        rw [nI_clamp (by omega)]
        exact br_f z (by assumption)
theorem sl_r (p0 p1 : Int32) : ((∀ {wc dl ns nb ca dn sn bm : Int32} {ba ds mk wo bo us ws wv nt : Nat → Int32} (post : Int32 → Prop), post (-1) → wpX_slotOf post (wc, dl, ns, nb, ca, dn, sn, bm, ba, ds, mk, wo, vt, bo, us, ws, wv, nt) p0 p1) ∧ (∀ {dl ca sn bm dn wc nb ns : Int32} {ba ds mk bo ys yv nt yz : Nat → Int32} (post : Int32 → Prop), post 0 → wpY_isLblock post (dl, ca, sn, bm, dn, wc, nb, ns, ba, ds, mk, vt, bo, ys, yv, nt, yz) p0 p1)) ∨ (∃ v l : Nat, v < 6 ∧ l < 20 ∧ p0 = nI v ∧ p1 = nI l ∧ (∀ {wc dl ns nb ca dn sn bm : Int32} {ba ds mk wo bo us ws wv nt : Nat → Int32} (post : Int32 → Prop), post (nI (v * 20 + l)) → wpX_slotOf post (wc, dl, ns, nb, ca, dn, sn, bm, ba, ds, mk, wo, vt, bo, us, ws, wv, nt) p0 p1) ∧ (∀ {dl ca sn bm dn wc nb ns : Int32} {ba ds mk bo ys yv nt yz : Nat → Int32} (post : Int32 → Prop), post 1 → wpY_isLblock post (dl, ca, sn, bm, dn, wc, nb, ns, ba, ds, mk, vt, bo, ys, yv, nt, yz) p0 p1)) := by
  obtain ⟨r, hr, hX, hY⟩ := vo_r (vt := vt) p0
  rcases hr with rfl | ⟨rfl, v, hv, rfl⟩
  · refine Or.inl ⟨?_, ?_⟩
    · intros; unfold wpX_slotOf; dsimp only; exact hX _ (br_t rfl (by assumption))
    · intros; unfold wpY_isLblock; dsimp only; exact hY _ (br_t rfl (by assumption))
  · rcases pk_ix p1 (n := 20) (by decide) with h | h | ⟨l, hl, rfl⟩
    · refine Or.inl ⟨?_, ?_⟩
      · intros; unfold wpX_slotOf; dsimp only; exact hX _ (br_f (by decide) (br_t h (by assumption)))
      · intros; unfold wpY_isLblock; dsimp only; exact hY _ (br_f (by decide) (br_t h (br_t rfl (by assumption))))
    · have h0 := ge_0 20 (by decide) h
      have h20 : ¬ p1 < 20 := Int32.not_lt.mpr h
      have h19 : (19 : Int32) < p1 := Int32.lt_of_lt_of_le (by decide) h
      refine Or.inl ⟨?_, ?_⟩
      · intros; unfold wpX_slotOf; dsimp only; exact hX _ (br_f (by decide) (br_f h0 (br_f h20 (by assumption))))
      · intros; unfold wpY_isLblock; dsimp only; exact hY _ (br_f (by decide) (br_f h0 (br_t h19 (br_t rfl (by assumption)))))
    · have h0 : ¬ nI l < 0 := nI_pos (by omega)
      have h20 : nI l < (20 : Int32) := nI_lt (b := 20) hl (by decide)
      have h19 : ¬ (19 : Int32) < nI l := nI_nlt (a := 19) (b := l) (by omega) (by decide)
      refine Or.inr ⟨v, l, hv, hl, rfl, rfl, ?_, ?_⟩
      · intros
        unfold wpX_slotOf
        dsimp only
        refine hX _ (br_f (by decide) (br_f h0 (br_t h20 ?_)))
        rw [rb_slot]
        assumption
      · intros; unfold wpY_isLblock; dsimp only; exact hY _ (br_f (by decide) (br_f h0 (br_f h19 (br_f (by decide) (by assumption)))))
/-! write -/
theorem ap_x {post : Int32 → SX → Prop} {w : Nat} {p2 x : Int32} (hw : w < 6) (h : post 0 (nI (w + 1), dl, ns, nb, ca, dn, sn, bm, ba, ds, mk, wo, vt, bo, us, upd ws w x, upd wv w (p2 &&& 255), nt)) : wX_write_76 post p2 x (nI w) dl ns nb ca dn sn bm ba ds mk wo vt bo us ws wv nt := by
  refine ⟨vp_in_nI hw (by omega), ?_⟩
  rw [nI_clamp (by omega)]
  exact nm_e ⟨vp_in_nI hw (by omega), nm_e (nm_r (nI_1 w) h)⟩
theorem ap_y {post : Int32 → SY → Prop} {w : Nat} {x y : Int32} (hw : w < 6) (h : post 0 (dl, ca, sn, bm, dn, nI (w + 1), nb, ns, ba, ds, mk, vt, bo, upd ys w x, upd yv w y, nt, yz)) : wY_write_100 post x y dl ca sn bm dn (nI w) nb ns ba ds mk vt bo ys yv nt yz := by
  refine ⟨vp_in_nI hw (by omega), ?_⟩
  rw [nI_clamp (by omega)]
  exact nm_e ⟨vp_in_nI hw (by omega), nm_e (nm_r (nI_1 w) h)⟩
theorem rl_ad {w d s b c l : Nat} {x : Int32} (hl : l < 120) (hx : is_b x) (hw : w < d) (hn : ∀ j : Nat, j < w → ws j ≠ nI l) (H : rl_i w d s b c ca ba ds mk bo us ws wv ys yv nt) : rl_i (w + 1) d s b c ca ba ds mk bo us (upd ws w (nI l)) (upd wv w x) (upd ys w (nI l)) (upd yv w x) nt := by
  obtain ⟨hwd, hd, hs, hb, hc, hca, hby, hdk, hbo, hus, hwt, hnt⟩ := H
  exact ⟨hw, hd, hs, hb, hc, hca, hby, hdk, hbo, hus, wt_ad hl hx hwt hn, hnt⟩
theorem rl_wt {w d s b c w' : Nat} {ws' wv' ys' yv' : Nat → Int32} (H : rl_i w d s b c ca ba ds mk bo us ws wv ys yv nt) (hw : w' ≤ d) (hk : wt_k w' ws' wv' ys' yv') : rl_i w' d s b c ca ba ds mk bo us ws' wv' ys' yv' nt := by
  obtain ⟨hwd, hd, hs, hb, hc, hca, hby, hdk, hbo, hus, hwt, hnt⟩ := H
  exact ⟨hw, hd, hs, hb, hc, hca, hby, hdk, hbo, hus, hk, hnt⟩
theorem si_write {u : SX} {v : SY} (R : rl_s u v) (p0 p1 p2 : Int32) : si_m (fun post => wpX_write post u p0 p1 p2) (fun post => wpY_write post v p0 p1 p2) := by
  obtain ⟨w, d, s, b, c, ca, dn, bm, ba, ds, mk, wo, vt, bo, us, ws, wv, nt, ys, yv, yz, rfl, rfl, H⟩ := R
  by_cases hdn : dn = 0
  · rcases sl_r (vt := vt) p0 p1 with ⟨hX, hY⟩ | ⟨v, l, hv, hl, rfl, rfl, hX, hY⟩
    · exact ⟨-1, _, _, rl_m H, fun post hp => br_t hdn (hX _ (br_f rb_n1le hp)), fun post hp => br_t hdn (hY _ (br_t rfl hp))⟩
    · have hs : v * 20 + l < 120 := by omega
      have hwd := H.1
      have hd6 := H.2.1
      have p0' : (0 : Int32) ≤ nI (v * 20 + l) := nI_pos' (by omega)
      by_cases hd0 : d = 0
      · obtain ⟨r, w', s', b', ca', dn', ba', wo', bo', us', nt', yz', R, hr, wX, wY⟩ := wn_r (v := p2 &&& 255) (dn := dn) (bm := bm) (wo := wo) (vt := vt) (yz := yz) hs (is_ba p2) H
        have e0 : nI d = 0 := by rw [hd0]; rfl
        exact ⟨r, _, _, rl_m R, fun post hp => br_t hdn (hX _ (br_t p0' (br_t e0 (wX _ hp)))), fun post hp => br_t hdn (hY _ (br_f (by decide) (nm_r (rb_slot' v l) (nm_e (br_t e0 (wY _ hp))))))⟩
      · have e0 : ¬ nI d = 0 := nI_ne0 (by omega) (by omega)
        obtain ⟨r, w', ws', wv', ys', yv', hk, hn, hlt, hge, fX, fY, fZ⟩ := fg_r (l := v * 20 + l) (by omega) H.2.2.2.2.2.2.2.2.2.2.1
        by_cases hr : r < 0
        · obtain ⟨rfl, rfl, rfl, rfl, rfl⟩ := hlt hr
          by_cases hfull : w' = d
          · obtain ⟨r2, w2, s2, b2, ca2, dn2, ba2, wo2, bo2, us2, ws2, wv2, nt2, ys2, yv2, yz2, R2, hr2, hr3, wX, wY⟩ := ww_r (a := 0) (dn := dn) (bm := bm) (wo := wo) (vt := vt) (yz := yz) (by omega) H
            by_cases z : r2 = 0
            · have hw2 := hr2 z
              have hn2 : ∀ j : Nat, j < w2 → ws2 j ≠ nI (v * 20 + l) := by
                intro j hj
                obtain ⟨m, hm, e⟩ := sh_at (a := ws') (i := 0) hj
                rw [hr3 z, e]
                exact hn m (by omega)
              exact ⟨0, _, _, rl_m (rl_ad hs (is_ba p2) (by omega) hn2 R2), fun post hp => br_t hdn (hX _ (br_t p0' (br_f e0 (fX _ (br_f (nI_nlt (by omega) (by omega)) (wX _ (br_t z (ap_x (by omega) hp)))))))), fun post hp => br_t hdn (hY _ (br_f (by decide) (nm_r (rb_slot' v l) (nm_e (br_f e0 (fY _ (br_t hr (br_t (by rw [hfull]) (wY _ (br_t z (ap_y (by omega) hp)))))))))))⟩
            · exact ⟨r2, _, _, rl_m R2, fun post hp => br_t hdn (hX _ (br_t p0' (br_f e0 (fX _ (br_f (nI_nlt (by omega) (by omega)) (wX _ (br_f z hp))))))), fun post hp => br_t hdn (hY _ (br_f (by decide) (nm_r (rb_slot' v l) (nm_e (br_f e0 (fY _ (br_t hr (br_t (by rw [hfull]) (wY _ (br_f z hp))))))))))⟩
          · exact ⟨0, _, _, rl_m (rl_ad hs (is_ba p2) (by omega) hn H), fun post hp => br_t hdn (hX _ (br_t p0' (br_f e0 (fX _ (br_t (nI_lt (by omega) (by omega)) (ap_x (by omega) hp)))))), fun post hp => br_t hdn (hY _ (br_f (by decide) (nm_r (rb_slot' v l) (nm_e (br_f e0 (fY _ (br_t hr (br_f (fun z => hfull ((nI_eq (by omega) (by omega)).mp z)) (ap_y (by omega) hp)))))))))⟩
        · have hw' := (hge hr).1
          exact ⟨0, _, _, rl_m (rl_ad hs (is_ba p2) (by omega) hn (rl_wt H (by omega) hk)), fun post hp => br_t hdn (hX _ (br_t p0' (br_f e0 (fX _ (br_t (nI_lt (by omega) (by omega)) (ap_x (by omega) hp)))))), fun post hp => br_t hdn (hY _ (br_f (by decide) (nm_r (rb_slot' v l) (nm_e (br_f e0 (fY _ (br_f hr (fZ hr _ (ap_y (by omega) hp)))))))))⟩
  · exact ⟨-4, _, _, rl_m H, fun post hp => br_f hdn hp, fun post hp => br_f hdn hp⟩
/-! delay -/
theorem rl_dl {w d s b c n : Nat} (H : rl_i w d s b c ca ba ds mk bo us ws wv ys yv nt) (h1 : w ≤ n) (h2 : n ≤ 6) : rl_i w n s b c ca ba ds mk bo us ws wv ys yv nt := by
  obtain ⟨hwd, hd, hs, hb, hc, hca, hby, hdk, hbo, hus, hwt, hnt⟩ := H
  exact ⟨h1, h2, hs, hb, hc, hca, hby, hdk, hbo, hus, hwt, hnt⟩
theorem si_delay {u : SX} {v : SY} (R : rl_s u v) (p0 : Int32) : si_m (fun post => wpX_delay post u p0) (fun post => wpY_delay post v p0) := by
  obtain ⟨w, d, s, b, c, ca, dn, bm, ba, ds, mk, wo, vt, bo, us, ws, wv, nt, ys, yv, yz, rfl, rfl, H⟩ := R
  have hw6 : w ≤ 6 := Nat.le_trans H.1 H.2.1
  rcases pk_ix p0 (n := 7) (by decide) with h | h | ⟨n, hn, rfl⟩
  · exact ⟨0, _, _, rl_m H, fun post hp => br_t (Int32.lt_of_lt_of_le h (nI_pos' (by omega))) hp, fun post hp => br_t h (br_t rfl hp)⟩
  · have h0 := ge_0 7 (by decide) h
    have h6 : (6 : Int32) < p0 := Int32.lt_of_lt_of_le (by decide) h
    exact ⟨0, _, _, rl_m H, fun post hp => br_c (fun _ => hp) (fun _ => br_f (Int32.not_le.mpr h6) hp), fun post hp => br_f h0 (br_t h6 (br_t rfl hp))⟩
  · have h0 : ¬ nI n < 0 := nI_pos (by omega)
    have h6 : nI n ≤ (6 : Int32) := nI_le (b := 6) (by omega) (by decide)
    have h6' : ¬ (6 : Int32) < nI n := nI_nlt (a := 6) (b := n) (by omega) (by decide)
    by_cases c1 : n < w
    · exact ⟨0, _, _, rl_m H, fun post hp => br_t (nI_lt c1 (by omega)) hp, fun post hp => br_f h0 (br_f h6' (br_f (by decide) (br_f (nI_ge c1 (by omega)) hp)))⟩
    · exact ⟨1, _, _, rl_m (rl_dl H (by omega) (by omega : n ≤ 6)), fun post hp => br_f (nI_nlt (by omega) (by omega)) (br_t h6 hp), fun post hp => br_f h0 (br_f h6' (br_f (by decide) (br_t (nI_le (by omega) (by omega)) hp)))⟩
/-! flush -/
theorem fl_l {n d : Nat} (hn : n ≤ 6) : ∀ (e i : Nat) (w s b c : Nat) (ca dn bm : Int32) (ba ds mk wo vt bo us ws wv nt ys yv yz : Nat → Int32), i + e = n → rl_i w d s b c ca ba ds mk bo us ws wv ys yv nt → si_m (fun post => wX_flush_27 post (nI n) (e + 1) (nI i) (nI i) (nI w) (nI d) (nI s) (nI b) ca dn (nI c) bm ba ds mk wo vt bo us ws wv nt) (fun post => wY_flush_24 post (nI n) (e + 1) (nI i) (nI d) ca (nI c) bm dn (nI w) (nI b) (nI s) ba ds mk vt bo ys yv nt yz) := by
  intro e
  induction e with
  | zero =>
    intro i w s b c ca dn bm ba ds mk wo vt bo us ws wv nt ys yv yz hi H
    have hi : i = n := by omega
    subst hi
    exact ⟨nI i, _, _, rl_m H, fun post hp => br_t (nI_le (Nat.le_refl i) (by omega)) hp, fun post hp => br_t (nI_le (Nat.le_refl i) (by omega)) hp⟩
  | succ e ih =>
    intro i w s b c ca dn bm ba ds mk wo vt bo us ws wv nt ys yv yz hi H
    have hge : ¬ nI n ≤ nI i := nI_ge (by omega) (by omega)
    have hw6 : w ≤ 6 := Nat.le_trans H.1 H.2.1
    by_cases h0 : w = 0
    · have e0 : nI w ≤ 0 := (rb_le0 (by omega)).mpr h0
      exact ⟨nI i, _, _, rl_m H, fun post hp => br_f hge (br_t e0 hp), fun post hp => br_f hge (br_t e0 hp)⟩
    · have e0 : ¬ nI w ≤ 0 := nI_nle (by omega) (by omega)
      obtain ⟨r2, w2, s2, b2, ca2, dn2, ba2, wo2, bo2, us2, ws2, wv2, nt2, ys2, yv2, yz2, R2, hr2, _, wX, wY⟩ := ww_r (a := 0) (dn := dn) (bm := bm) (wo := wo) (vt := vt) (yz := yz) (by omega) H
      by_cases z : r2 = 0
      · obtain ⟨r, u', v', R, hX, hY⟩ := ih (i + 1) w2 s2 b2 c ca2 dn2 bm ba2 ds mk wo2 vt bo2 us2 ws2 wv2 nt2 ys2 yv2 yz2 (by omega) R2
        exact ⟨r, u', v', R, fun post hp => br_f hge (br_f e0 (wX _ (br_t z (nm_r (nI_1 i) (nm_r (nI_1 i) (hX post hp)))))), fun post hp => br_f hge (br_f e0 (wY _ (br_t z (nm_r (nI_1 i) (hY post hp)))))⟩
      · exact ⟨nI i, _, _, rl_m R2, fun post hp => br_f hge (br_f e0 (wX _ (br_f z hp))), fun post hp => br_f hge (br_f e0 (wY _ (br_f z hp)))⟩
theorem si_flush {u : SX} {v : SY} (R : rl_s u v) (p0 : Int32) : si_m (fun post => wpX_flush post u p0) (fun post => wpY_flush post v p0) := by
  obtain ⟨w, d, s, b, c, ca, dn, bm, ba, ds, mk, wo, vt, bo, us, ws, wv, nt, ys, yv, yz, rfl, rfl, H⟩ := R
  by_cases hdn : dn = 0
  · rcases pk_ix p0 (n := 7) (by decide) with h | h | ⟨n, hn, rfl⟩
    · have h1 : p0 < 1 := Int32.lt_trans h (by decide)
      exact ⟨-1, _, _, rl_m H, fun post hp => br_t hdn (br_t h1 hp), fun post hp => br_t hdn (br_t h1 (br_t rfl hp))⟩
    · have h1 : ¬ p0 < 1 := Int32.not_lt.mpr (Int32.le_trans (by decide) h)
      have h6 : (6 : Int32) < p0 := Int32.lt_of_lt_of_le (by decide) h
      exact ⟨-1, _, _, rl_m H, fun post hp => br_t hdn (br_f h1 (br_f (Int32.not_le.mpr h6) hp)), fun post hp => br_t hdn (br_f h1 (br_t h6 (br_t rfl hp)))⟩
    · by_cases h0 : n = 0
      · subst h0
        exact ⟨-1, _, _, rl_m H, fun post hp => br_t hdn (br_t (by decide) hp), fun post hp => br_t hdn (br_t (by decide) (br_t rfl hp))⟩
      · have h1 : ¬ nI n < 1 := nI_nlt (b := 1) (by omega) (by omega)
        have h6 : nI n ≤ (6 : Int32) := nI_le (b := 6) (by omega) (by decide)
        have h6' : ¬ (6 : Int32) < nI n := nI_nlt (a := 6) (b := n) (by omega) (by decide)
        obtain ⟨r, u', v', R, hX, hY⟩ := fl_l (n := n) (by omega) n 0 w s b c ca dn bm ba ds mk wo vt bo us ws wv nt ys yv yz (by omega) H
        exact ⟨r, u', v', R, fun post hp => br_t hdn (br_f h1 (br_t h6 ⟨_, hX post hp⟩)), fun post hp => br_t hdn (br_f h1 (br_f h6' (br_f (by decide) ⟨_, hY post hp⟩)))⟩
  · exact ⟨-4, _, _, rl_m H, fun post hp => br_f hdn hp, fun post hp => br_f hdn hp⟩
end
end
section
section
variable {wc dl ns nb ca dn sn bm : Int32} {ba ds mk wo vt bo us ws wv nt ys yv yz : Nat → Int32}
/-! read -/
theorem si_read {u : SX} {v : SY} (R : rl_s u v) (p0 p1 : Int32) : si_m (fun post => wpX_read post u p0 p1) (fun post => wpY_read post v p0 p1) := by
  obtain ⟨w, d, s, b, c, ca, dn, bm, ba, ds, mk, wo, vt, bo, us, ws, wv, nt, ys, yv, yz, rfl, rfl, H⟩ := R
  by_cases hdn : dn = 0
  · rcases sl_r (vt := vt) p0 p1 with ⟨hX, hY⟩ | ⟨v, l, hv, hl, rfl, rfl, hX, hY⟩
    · exact ⟨-1, _, _, rl_m H, fun post hp => br_t hdn (hX _ (br_f rb_n1le hp)), fun post hp => br_t hdn (hY _ (br_t rfl hp))⟩
    · have hs : v * 20 + l < 120 := by omega
      have hw6 : w ≤ 6 := Nat.le_trans H.1 H.2.1
      have hby := H.2.2.2.2.2.2.1
      have hbo := H.2.2.2.2.2.2.2.2.1
      have hwt := H.2.2.2.2.2.2.2.2.2.2.1
      have p0' : (0 : Int32) ≤ nI (v * 20 + l) := nI_pos' (by omega)
      have hin : vp_in (nI (v * 20 + l)) 120 := vp_in_nI hs (by omega)
      obtain ⟨r, hr, fX, fY⟩ := wa_r (l := v * 20 + l) hw6 hwt
      rcases hr with ⟨rfl, _⟩ | ⟨a, ha, rfl, _⟩
      · rcases hbo (v * 20 + l) hs with e | ⟨k, hk, e⟩
        · refine ⟨0, _, _, rl_m (dn := dn) (bm := bm) (wo := wo) (vt := vt) (yz := yz) H, fun post hp => br_t hdn (hX _ (br_t p0' (fX _ (br_t rb_n1lt ⟨hin, ?_⟩)))), fun post hp => br_t hdn (hY _ (br_f (by decide) (nm_r (rb_slot' v l) (fY _ ⟨hin, ?_⟩))))⟩
          · rw [nI_clamp (by omega), e]; exact nm_e (br_f rb_n1le hp)
          · rw [nI_clamp (by omega), e]; exact nm_e (br_t rb_n1lt (br_f rb_n1le hp))
        · have hk4 : k / 4 < 16 := by omega
          have k0 : (0 : Int32) ≤ nI k := nI_pos' (by omega)
          have hcell : ((k / 4 + k % 4) % 6 * 16 + k / 4) < 96 := by omega
          by_cases ht : th_v ds mk ((k / 4 + k % 4) % 6) (k / 4) = 0
          · by_cases hlo : lo_v ds mk (k / 4) = 0
            · obtain ⟨wo', yz', hag, _, gX, gY⟩ := fw_r (wc := nI w) (dl := nI d) (ns := nI s) (nb := nI b) (ca := ca) (dn := dn) (sn := nI c) (bm := bm) (wo := wo) (vt := vt) (bo := bo) (us := us) (ws := ws) (wv := wv) (nt := nt) (ys := ys) (yv := yv) (yz := yz) hk4 hby hlo
              refine ⟨wo' (k % 4), _, _, rl_m (dn := dn) (bm := bm) (wo := wo') (vt := vt) (yz := yz') H, fun post hp => br_t hdn (hX _ (br_t p0' (fX _ (br_t rb_n1lt ⟨hin, ?_⟩)))), fun post hp => br_t hdn (hY _ (br_f (by decide) (nm_r (rb_slot' v l) (fY _ ⟨hin, ?_⟩))))⟩
              · rw [nI_clamp (by omega), e]
                refine nm_e (br_t k0 ⟨rb_4, nm_r (rb_d4 (by omega)) ⟨rb_4, nm_r (rb_r4 (by omega)) ⟨rb_6, nm_r (rb_dk (by omega) (by omega)) (xt_r (Nat.mod_lt _ (by decide)) hk4 (br_t ht (xl_r hk4 (br_t hlo (gX _ ⟨vp_in_nI (by omega) (by omega), ?_⟩)))))⟩⟩⟩)
                rw [nI_clamp (by omega)]
                exact hp
              · rw [nI_clamp (by omega), e]
                refine nm_e (br_t rb_n1lt (br_t k0 ⟨rb_4, nm_r (rb_d4 (by omega)) ⟨rb_4, nm_r (rb_r4 (by omega)) (yh_r hk4 (by omega) (br_t ht (yl_r hk4 (br_t hlo (gY _ ⟨vp_in_nI (by omega) (by omega), ?_⟩)))))⟩⟩))
                rw [nI_clamp (by omega), ← hag (k % 4) (by omega)]
                exact hp
            · refine ⟨-3, _, _, rl_m (dn := dn) (bm := bm) (wo := wo) (vt := vt) (yz := yz) H, fun post hp => br_t hdn (hX _ (br_t p0' (fX _ (br_t rb_n1lt ⟨hin, ?_⟩)))), fun post hp => br_t hdn (hY _ (br_f (by decide) (nm_r (rb_slot' v l) (fY _ ⟨hin, ?_⟩))))⟩
              · rw [nI_clamp (by omega), e]
                exact nm_e (br_t k0 ⟨rb_4, nm_r (rb_d4 (by omega)) ⟨rb_4, nm_r (rb_r4 (by omega)) ⟨rb_6, nm_r (rb_dk (by omega) (by omega)) (xt_r (Nat.mod_lt _ (by decide)) hk4 (br_t ht (xl_r hk4 (br_f hlo hp))))⟩⟩⟩)
              · rw [nI_clamp (by omega), e]
                exact nm_e (br_t rb_n1lt (br_t k0 ⟨rb_4, nm_r (rb_d4 (by omega)) ⟨rb_4, nm_r (rb_r4 (by omega)) (yh_r hk4 (by omega) (br_t ht (yl_r hk4 (br_f hlo hp))))⟩⟩))
          · refine ⟨ba ((k / 4 + k % 4) % 6 * 16 + k / 4), _, _, rl_m (dn := dn) (bm := bm) (wo := wo) (vt := vt) (yz := yz) H, fun post hp => br_t hdn (hX _ (br_t p0' (fX _ (br_t rb_n1lt ⟨hin, ?_⟩)))), fun post hp => br_t hdn (hY _ (br_f (by decide) (nm_r (rb_slot' v l) (fY _ ⟨hin, ?_⟩))))⟩
            · rw [nI_clamp (by omega), e]
              refine nm_e (br_t k0 ⟨rb_4, nm_r (rb_d4 (by omega)) ⟨rb_4, nm_r (rb_r4 (by omega)) ⟨rb_6, nm_r (rb_dk (by omega) (by omega)) (xt_r (Nat.mod_lt _ (by decide)) hk4 (br_f ht ⟨pk_in _ 96 hcell (rb_cell _ _), ?_⟩))⟩⟩⟩)
              rw [rb_cell, nI_clamp (by omega)]
              exact hp
            · rw [nI_clamp (by omega), e]
              refine nm_e (br_t rb_n1lt (br_t k0 ⟨rb_4, nm_r (rb_d4 (by omega)) ⟨rb_4, nm_r (rb_r4 (by omega)) (yh_r hk4 (by omega) (br_f ht (yc_r hk4 (by omega) ⟨vp_in_nI hcell (by omega), ?_⟩)))⟩⟩))
              rw [nI_clamp (by omega)]
              exact hp
      · have ha0 : ¬ nI a < 0 := nI_pos (by omega)
        have hia : vp_in (nI a) 6 := vp_in_nI (by omega) (by omega)
        refine ⟨wv a, _, _, rl_m (dn := dn) (bm := bm) (wo := wo) (vt := vt) (yz := yz) H, fun post hp => br_t hdn (hX _ (br_t p0' (fX _ (br_f ha0 ⟨hia, ?_⟩)))), fun post hp => br_t hdn (hY _ (br_f (by decide) (nm_r (rb_slot' v l) (fY _ ⟨hin, nm_e (br_f ha0 ⟨hia, ?_⟩)⟩))))⟩
        · rw [nI_clamp (by omega)]; exact hp
        · rw [nI_clamp (by omega), (hwt.1 a ha).2.1]; exact hp
  · exact ⟨-4, _, _, rl_m H, fun post hp => br_f hdn hp, fun post hp => br_f hdn hp⟩
/-! trim -/
theorem bk_n : bk_k (-1) := Or.inl rfl
theorem rl_bo {w d s b c l : Nat} {x : Int32} (hl : l < 120) (hx : bk_k x) (H : rl_i w d s b c ca ba ds mk bo us ws wv ys yv nt) : rl_i w d s b c ca ba ds mk (upd bo l x) (pu_i (pu_d us (bo l)) x) ws wv ys yv nt := by
  obtain ⟨hwd, hd, hs, hb, hc, hca, hby, hdk, hbo, hus, hwt, hnt⟩ := H
  exact ⟨hwd, hd, hs, hb, hc, hca, hby, hdk, bo_p hx hbo, us_p hl hx hbo hus, hwt, hnt⟩
theorem si_trim {u : SX} {v : SY} (R : rl_s u v) (p0 p1 : Int32) : si_m (fun post => wpX_trim post u p0 p1) (fun post => wpY_trim post v p0 p1) := by
  obtain ⟨w, d, s, b, c, ca, dn, bm, ba, ds, mk, wo, vt, bo, us, ws, wv, nt, ys, yv, yz, rfl, rfl, H⟩ := R
  by_cases hdn : dn = 0
  · rcases sl_r (vt := vt) p0 p1 with ⟨hX, hY⟩ | ⟨v, l, hv, hl, rfl, rfl, hX, hY⟩
    · exact ⟨-1, _, _, rl_m H, fun post hp => br_t hdn (hX _ (br_f rb_n1le hp)), fun post hp => br_t hdn (hY _ (br_t rfl hp))⟩
    · have hs : v * 20 + l < 120 := by omega
      have hw6 : w ≤ 6 := Nat.le_trans H.1 H.2.1
      have hwd := H.1
      have hbo := H.2.2.2.2.2.2.2.2.1
      have p0' : (0 : Int32) ≤ nI (v * 20 + l) := nI_pos' (by omega)
      have hin : vp_in (nI (v * 20 + l)) 120 := vp_in_nI hs (by omega)
      obtain ⟨r, w', ws', wv', ys', yv', hk, hn, hlt, hge, fX, fY, fZ⟩ := fg_r (l := v * 20 + l) hw6 H.2.2.2.2.2.2.2.2.2.2.1
      by_cases hr : r < 0
      · obtain ⟨rfl, rfl, rfl, rfl, rfl⟩ := hlt hr
        refine ⟨0, _, _, rl_m (dn := dn) (bm := bm) (wo := wo) (vt := vt) (yz := yz) (rl_bo hs bk_n H), fun post hp => br_t hdn (hX _ (br_t p0' (xo_p hs bk_n hbo (fX _ hp)))), fun post hp => br_t hdn (hY _ (br_f (by decide) (nm_r (rb_slot' v l) (fY _ (br_t hr ⟨hin, ?_⟩)))))⟩
        rw [nI_clamp (by omega)]
        exact nm_e hp
      · have hw' := (hge hr).1
        refine ⟨0, _, _, rl_m (dn := dn) (bm := bm) (wo := wo) (vt := vt) (yz := yz) (rl_wt (rl_bo hs bk_n H) (by omega) hk), fun post hp => br_t hdn (hX _ (br_t p0' (xo_p hs bk_n hbo (fX _ hp)))), fun post hp => br_t hdn (hY _ (br_f (by decide) (nm_r (rb_slot' v l) (fY _ (br_f hr (fZ hr _ ⟨hin, ?_⟩))))))⟩
        rw [nI_clamp (by omega)]
        exact nm_e hp
  · exact ⟨-4, _, _, rl_m H, fun post hp => br_f hdn hp, fun post hp => br_f hdn hp⟩
/-! change -/
theorem rl_dk {w d s b c : Nat} {ds' mk' ba' : Nat → Int32} (H : rl_i w d s b c ca ba ds mk bo us ws wv ys yv nt) (h : dk_k ds' mk') (hb : by_k ba') : rl_i w d s b c ca ba' ds' mk' bo us ws wv ys yv nt := by
  obtain ⟨hwd, hd, hs, hb, hc, hca, hby, hdk, hbo, hus, hwt, hnt⟩ := H
  exact ⟨hwd, hd, hs, hb, hc, hca, by assumption, h, hbo, hus, hwt, hnt⟩
theorem dk_u {j m : Nat} {x : Int32} (hm : m ≤ 16) (hx : x = 2 → m < 16) (h : dk_k ds mk) : dk_k (upd ds j x) (upd mk j (nI m)) := by
  intro i hi
  by_cases c : i = j
  · rw [c, pk_us, pk_us]
    exact ⟨m, hm, rfl, hx⟩
  · rw [pk_un c, pk_un c]
    exact h i hi
theorem ch_x {post : Int32 → SX → Prop} {j : Nat} {z : Int32} (hj : j < 6) (h : post 1 (wc, dl, ns, nb, ca, dn, sn, bm, ba, upd ds j z, upd mk j (nI 0), wo, vt, bo, us, ws, wv, nt)) : wX_change_49 post (nI j) z (nI j) wc dl ns nb ca dn sn bm ba ds mk wo vt bo us ws wv nt := by
  refine ⟨vp_in_nI hj (by omega), ?_⟩
  rw [nI_clamp (by omega)]
  exact nm_e ⟨vp_in_nI hj (by omega), nm_e h⟩
theorem ch_y {post : Int32 → SY → Prop} {j : Nat} {z : Int32} (hj : j < 6) (h : post 1 (dl, ca, sn, bm, dn, wc, nb, ns, ba, upd ds j z, upd mk j (nI 0), vt, bo, ys, yv, nt, yz)) : wY_change_44 post (nI j) z (nI j) dl ca sn bm dn wc nb ns ba ds mk vt bo ys yv nt yz := by
  refine ⟨vp_in_nI hj (by omega), ?_⟩
  rw [nI_clamp (by omega)]
  exact nm_e ⟨vp_in_nI hj (by omega), nm_e h⟩
theorem si_change {u : SX} {v : SY} (R : rl_s u v) (p0 p1 : Int32) : si_m (fun post => wpX_change post u p0 p1) (fun post => wpY_change post v p0 p1) := by
  obtain ⟨w, d, s, b, c, ca, dn, bm, ba, ds, mk, wo, vt, bo, us, ws, wv, nt, ys, yv, yz, rfl, rfl, H⟩ := R
  have hby := H.2.2.2.2.2.2.1
  have hdk := H.2.2.2.2.2.2.2.1
  rcases pk_ix p0 (n := 6) (by decide) with h | h | ⟨j, hj, rfl⟩
  · exact ⟨0, _, _, rl_m H, fun post hp => br_t h hp, fun post hp => br_t h (br_t rfl hp)⟩
  · have h0 := ge_0 6 (by decide) h
    exact ⟨0, _, _, rl_m H, fun post hp => br_f h0 (br_f (Int32.not_lt.mpr h) hp), fun post hp => br_f h0 (br_t (i5_6 h) (br_t rfl hp))⟩
  · have h0 : ¬ nI j < 0 := nI_pos (by omega)
    have h6 : nI j < (6 : Int32) := nI_lt (b := 6) hj (by decide)
    have h5 : ¬ (5 : Int32) < nI j := nI_nlt (a := 5) (b := j) (by omega) (by decide)
    have hin : vp_in (nI j) 6 := vp_in_nI hj (by omega)
    have h2 := rl_dk H (dk_u (j := j) (m := 0) (x := 2) (by decide) (fun _ => by decide) hdk) hby
    have h1 := rl_dk H (dk_u (j := j) (m := 0) (x := 1) (by decide) (fun _ => by decide) hdk) hby
    by_cases hf : ds j = 1
    · by_cases hz : 1 = p1
      · refine ⟨0, _, _, rl_m (dn := dn) (bm := bm) (wo := wo) (vt := vt) (yz := yz) H, fun post hp => br_f h0 (br_t h6 ⟨hin, ?_⟩), fun post hp => br_f h0 (br_f h5 (br_f (by decide) ⟨hin, ?_⟩))⟩
        · rw [nI_clamp (by omega)]; exact br_t hf (br_t hz hp)
        · rw [nI_clamp (by omega)]; exact br_t hf (br_t hz.symm hp)
      · by_cases h20 : p1 = 0
        · refine ⟨1, _, _, rl_m (dn := dn) (bm := bm) (wo := wo) (vt := vt) (yz := yz) h2, fun post hp => br_f h0 (br_t h6 ⟨hin, ?_⟩), fun post hp => br_f h0 (br_f h5 (br_f (by decide) ⟨hin, ?_⟩))⟩
          · rw [nI_clamp (by omega)]; exact br_t hf (br_f hz (br_t h20 (ch_x hj hp)))
          · rw [nI_clamp (by omega)]; exact br_t hf (br_f (fun z => hz z.symm) (br_t h20 (ch_y hj hp)))
        · refine ⟨1, _, _, rl_m (dn := dn) (bm := bm) (wo := wo) (vt := vt) (yz := yz) h1, fun post hp => br_f h0 (br_t h6 ⟨hin, ?_⟩), fun post hp => br_f h0 (br_f h5 (br_f (by decide) ⟨hin, ?_⟩))⟩
          · rw [nI_clamp (by omega)]; exact br_t hf (br_f hz (br_f h20 (ch_x hj hp)))
          · rw [nI_clamp (by omega)]; exact br_t hf (br_f (fun z => hz z.symm) (br_f h20 (ch_y hj hp)))
    · by_cases hz : 0 = p1
      · refine ⟨0, _, _, rl_m (dn := dn) (bm := bm) (wo := wo) (vt := vt) (yz := yz) H, fun post hp => br_f h0 (br_t h6 ⟨hin, ?_⟩), fun post hp => br_f h0 (br_f h5 (br_f (by decide) ⟨hin, ?_⟩))⟩
        · rw [nI_clamp (by omega)]; exact br_f hf (br_t hz hp)
        · rw [nI_clamp (by omega)]; exact br_f hf (br_t hz.symm hp)
      · refine ⟨1, _, _, rl_m (dn := dn) (bm := bm) (wo := wo) (vt := vt) (yz := yz) h1, fun post hp => br_f h0 (br_t h6 ⟨hin, ?_⟩), fun post hp => br_f h0 (br_f h5 (br_f (by decide) ⟨hin, ?_⟩))⟩
        · rw [nI_clamp (by omega)]; exact br_f hf (br_f hz (br_f (fun z => hz z.symm) (ch_x hj hp)))
        · rw [nI_clamp (by omega)]; exact br_f hf (br_f (fun z => hz z.symm) (br_f (fun z => hz z.symm) (ch_y hj hp)))
/-! spoil, raw, place, crash -/
def bd_k (p0 p1 : Int32) : Prop := p0 < 0 ∨ nI 6 ≤ p0 ∨ p1 < 0 ∨ nI 16 ≤ p1
theorem xt_0 {post : Int32 → Prop} {p0 p1 : Int32} (h : bd_k p0 p1) (hp : post 0) : wpX_isThere post (wc, dl, ns, nb, ca, dn, sn, bm, ba, ds, mk, wo, vt, bo, us, ws, wv, nt) p0 p1 := by
  refine br_c (fun _ => hp) (fun a => br_c (fun _ => hp) (fun b => br_c (fun _ => hp) (fun c => br_c (fun d => ?_) (fun _ => hp))))
  rcases h with h | h | h | h
  · exact absurd h a
  · exact absurd h b
  · exact absurd h c
  · exact absurd d (Int32.not_lt.mpr h)
theorem yi_2 {A B : Prop} {p0 p1 : Int32} (h : bd_k p0 p1) (hp : A) : wpY_in (fun r_1 => ((r_1 = 0 → A) ∧ (¬ r_1 = 0 → wpY_in (fun r_3 => ((r_3 = 0 → A) ∧ (¬ r_3 = 0 → B))) p1 0 15))) p0 0 5 := by
  refine br_c (fun _ => br_t rfl hp) (fun a => br_c (fun _ => br_t rfl hp) (fun b => br_f (by decide) (br_c (fun _ => br_t rfl hp) (fun c => br_c (fun _ => br_t rfl hp) (fun d => ?_)))))
  rcases h with h | h | h | h
  · exact absurd h a
  · exact absurd (i5_6 h) b
  · exact absurd h c
  · exact absurd (Int32.lt_of_lt_of_le (by decide) h) d
theorem yi_3 {A B : Prop} {d s : Nat} (hd : d < 6) (hs : s < 16) (hp : B) : wpY_in (fun r_1 => ((r_1 = 0 → A) ∧ (¬ r_1 = 0 → wpY_in (fun r_3 => ((r_3 = 0 → A) ∧ (¬ r_3 = 0 → B))) (nI s) 0 15))) (nI d) 0 5 :=
  br_f (nI_pos (by omega)) (br_f (nI_nlt (a := 5) (b := d) (by omega) (by decide)) (br_f (by decide) (br_f (nI_pos (by omega)) (br_f (nI_nlt (a := 15) (b := s) (by omega) (by decide)) (br_f (by decide) hp)))))
theorem bd_r (p0 p1 : Int32) : bd_k p0 p1 ∨ ∃ d s : Nat, d < 6 ∧ s < 16 ∧ p0 = nI d ∧ p1 = nI s := by
  rcases pk_ix p0 (n := 6) (by decide) with h | h | ⟨d, hd, rfl⟩
  · exact Or.inl (Or.inl h)
  · exact Or.inl (Or.inr (Or.inl h))
  · rcases pk_ix p1 (n := 16) (by decide) with h | h | ⟨s, hs, rfl⟩
    · exact Or.inl (Or.inr (Or.inr (Or.inl h)))
    · exact Or.inl (Or.inr (Or.inr (Or.inr h)))
    · exact Or.inr ⟨d, s, hd, hs, rfl, rfl⟩
theorem by_up {j : Nat} {x : Int32} (h : by_k ba) (hx : is_b x) : by_k (upd ba j x) := by
  intro i hi
  by_cases c : i = j
  · rw [c, pk_us]; exact hx
  · rw [pk_un c]; exact h i hi
theorem si_spoil {u : SX} {v : SY} (R : rl_s u v) (p0 p1 p2 : Int32) : si_m (fun post => wpX_spoil post u p0 p1 p2) (fun post => wpY_spoil post v p0 p1 p2) := by
  obtain ⟨w, d, s, b, c, ca, dn, bm, ba, ds, mk, wo, vt, bo, us, ws, wv, nt, ys, yv, yz, rfl, rfl, H⟩ := R
  have hby := H.2.2.2.2.2.2.1
  have hdk := H.2.2.2.2.2.2.2.1
  unfold si_m
  unfold wpX_spoil wpY_spoil
  dsimp only
  rcases bd_r p0 p1 with h | ⟨e, t, he, ht, rfl, rfl⟩
  · exact ⟨0, _, _, rl_m H, fun post hp => xt_0 h (br_t rfl hp), fun post hp => yi_2 h hp⟩
  · have hc : e * 16 + t < 96 := by omega
    by_cases z : th_v ds mk e t = 0
    · exact ⟨0, _, _, rl_m H, fun post hp => xt_r he ht (br_t z hp), fun post hp => yi_3 he ht (yt_r he (br_t z hp))⟩
    · refine ⟨1, _, _, rl_m (dn := dn) (bm := bm) (wo := wo) (vt := vt) (yz := yz) (rl_dk H hdk (by_up (j := e * 16 + t) hby (is_bx (hby _ hc) (is_ba p2)))), fun post hp => xt_r he ht (br_f z ⟨pk_in _ 96 hc (rb_cell e t), pk_in _ 96 hc (rb_cell e t), ?_⟩), fun post hp => yi_3 he ht (yt_r he (br_f z ⟨pk_in _ 96 hc (rb_cell' e t), pk_in _ 96 hc (rb_cell' e t), ?_⟩))⟩
      · rw [rb_cell, nI_clamp (by omega)]; exact nm_e hp
      · rw [rb_cell', nI_clamp (by omega)]; exact nm_e hp
/-- the calls that change nothing -/
def si_o (WX : (Int32 → Prop) → Prop) (WY : (Int32 → Prop) → Prop) : Prop := ∃ r : Int32, (∀ post : Int32 → Prop, post r → WX post) ∧ (∀ post : Int32 → Prop, post r → WY post)
theorem so_raw {u : SX} {v : SY} (R : rl_s u v) (p0 p1 : Int32) : si_o (fun post => wpX_raw post u p0 p1) (fun post => wpY_raw post v p0 p1) := by
  obtain ⟨w, d, s, b, c, ca, dn, bm, ba, ds, mk, wo, vt, bo, us, ws, wv, nt, ys, yv, yz, rfl, rfl, H⟩ := R
  unfold si_o
  unfold wpX_raw wpY_raw
  dsimp only
  rcases bd_r p0 p1 with h | ⟨e, t, he, ht, rfl, rfl⟩
  · exact ⟨-1, fun post hp => xt_0 h (br_t rfl hp), fun post hp => yi_2 h hp⟩
  · have hc : e * 16 + t < 96 := by omega
    by_cases z : th_v ds mk e t = 0
    · exact ⟨-1, fun post hp => xt_r he ht (br_t z hp), fun post hp => yi_3 he ht (yt_r he (br_t z hp))⟩
    · refine ⟨ba (e * 16 + t), fun post hp => xt_r he ht (br_f z ⟨pk_in _ 96 hc (rb_cell e t), ?_⟩), fun post hp => yi_3 he ht (yt_r he (br_f z ⟨pk_in _ 96 hc (rb_cell' e t), ?_⟩))⟩
      · rw [rb_cell, nI_clamp (by omega)]; exact hp
      · rw [rb_cell', nI_clamp (by omega)]; exact hp
theorem so_place {u : SX} {v : SY} (R : rl_s u v) (p0 p1 : Int32) : si_o (fun post => wpX_place post u p0 p1) (fun post => wpY_place post v p0 p1) := by
  obtain ⟨w, d, s, b, c, ca, dn, bm, ba, ds, mk, wo, vt, bo, us, ws, wv, nt, ys, yv, yz, rfl, rfl, H⟩ := R
  unfold si_o
  unfold wpX_place wpY_place
  dsimp only
  rcases sl_r (vt := vt) p0 p1 with ⟨hX, hY⟩ | ⟨v, l, hv, hl, rfl, rfl, hX, hY⟩
  · exact ⟨-1, fun post hp => hX _ (br_f rb_n1le hp), fun post hp => hY _ (br_t rfl hp)⟩
  · have hs : v * 20 + l < 120 := by omega
    refine ⟨bo (v * 20 + l), fun post hp => hX _ (br_t (nI_pos' (by omega)) ⟨vp_in_nI hs (by omega), ?_⟩), fun post hp => hY _ (br_f (by decide) ⟨pk_in _ 120 hs (rb_slot' v l), ?_⟩)⟩
    · rw [nI_clamp (by omega)]; exact hp
    · rw [rb_slot', nI_clamp (by omega)]; exact hp
theorem rl_ca {w d s b c : Nat} {x : Int32} (hx : ca_k x) (H : rl_i w d s b c ca ba ds mk bo us ws wv ys yv nt) : rl_i w d s b c x ba ds mk bo us ws wv ys yv nt := by
  obtain ⟨hwd, hd, hs, hb, hc, hca, hby, hdk, hbo, hus, hwt, hnt⟩ := H
  exact ⟨hwd, hd, hs, hb, hc, hx, hby, hdk, hbo, hus, hwt, hnt⟩
theorem rb_m1 {x : Int32} (h : ¬ x < -1) (h0 : x < 0) : x = -1 := by
  rw [Int32.lt_iff_toInt_lt, show (-1 : Int32).toInt = -1 from by decide] at h
  rw [Int32.lt_iff_toInt_lt, show (0 : Int32).toInt = 0 from by decide] at h0
  apply Int32.toInt_inj.mp
  rw [show (-1 : Int32).toInt = -1 from by decide]
  omega
theorem si_crash {u : SX} {v : SY} (R : rl_s u v) (p0 : Int32) : si_m (fun post => wpX_crash post u p0) (fun post => wpY_crash post v p0) := by
  obtain ⟨w, d, s, b, c, ca, dn, bm, ba, ds, mk, wo, vt, bo, us, ws, wv, nt, ys, yv, yz, rfl, rfl, H⟩ := R
  by_cases h1 : p0 < -1
  · exact ⟨0, _, _, rl_m H, fun post hp => br_t h1 hp, fun post hp => br_t h1 (br_t rfl hp)⟩
  · rcases pk_ix p0 (n := 3) (by decide) with h | h | ⟨j, hj, rfl⟩
    · have e := rb_m1 h1 h
      subst e
      exact ⟨1, _, _, rl_m (rl_ca (Or.inl rfl) H), fun post hp => br_f h1 (br_t (by decide) hp), fun post hp => br_f h1 (br_f (by decide) (br_f (by decide) hp))⟩
    · exact ⟨0, _, _, rl_m H, fun post hp => br_f h1 (br_f (Int32.not_lt.mpr h) hp), fun post hp => br_f h1 (br_t (Int32.lt_of_lt_of_le (by decide) h) (br_t rfl hp))⟩
    · exact ⟨1, _, _, rl_m (rl_ca (Or.inr ⟨j, hj, rfl⟩) H), fun post hp => br_f h1 (br_t (nI_lt (b := 3) hj (by decide)) hp), fun post hp => br_f h1 (br_f (nI_nlt (a := 2) (b := j) (by omega) (by decide)) (br_f (by decide) hp))⟩
/-! recover -/
theorem si_recover {u : SX} {v : SY} (R : rl_s u v) : si_m (fun post => wpX_recover post u) (fun post => wpY_recover post v) := by
  obtain ⟨w, d, s, b, c, ca, dn, bm, ba, ds, mk, wo, vt, bo, us, ws, wv, nt, ys, yv, yz, rfl, rfl, H⟩ := R
  by_cases hdn : dn = 0
  · exact ⟨0, _, _, rl_m H, fun post hp => br_t hdn hp, fun post hp => br_t hdn hp⟩
  · have hs := H.2.2.1
    have hb := H.2.2.2.1
    have hby := H.2.2.2.2.2.2.1
    have hdk := H.2.2.2.2.2.2.2.1
    have hbo := H.2.2.2.2.2.2.2.2.1
    have hnt := H.2.2.2.2.2.2.2.2.2.2.2
    have hbN : bk_k (nI b) := Or.inr ⟨b, hb, rfl⟩
    refine ⟨1, _, _, rl_m (dn := 0) (bm := bm) (wo := wo) (vt := vt) (yz := yz) (rl_bo hs hbN (rl_dk H hdk (pt_b (ds := ds) (mk := mk) hb hby hnt 3 (by decide)))), fun post hp => br_f hdn (xn_r (m := 3) hb (by decide) (xo_p hs hbN hbo hp)), fun post hp => br_f hdn ⟨4, yn_v (i := 0) hb (by decide) (yn_v (i := 1) hb (by decide) (yn_v (i := 2) hb (by decide) (br_t (by decide) ⟨vp_in_nI hs (by omega), ?_⟩)))⟩⟩
    rw [nI_clamp (by omega)]
    exact nm_e hp
end
end
section
section
variable {wc dl ns nb ca dn sn bm : Int32} {ba ds mk wo vt bo us ws wv nt ys yv yz : Nat → Int32}
/-! snapshot -/
theorem la_l : ∀ e i : Nat, i + e = 6 → ∃ k : Nat, k ≤ 6 ∧ (∀ {wc dl ns nb ca dn sn bm : Int32} {ba ds mk wo bo us ws wv nt : Nat → Int32} (post : Int32 → Prop), post (if k = 6 then -1 else nI k) → wX_leastAbsentVolume_2 post wc dl ns nb ca dn sn bm ba ds mk wo vt bo us ws wv nt (e + 1) (nI i)) ∧ (∀ {dl ca sn bm dn wc nb ns : Int32} {ba ds mk bo ys yv nt yz : Nat → Int32} (post : Int32 → SY → Prop) (x1 : Int32), wY_snapshot_87 post x1 (nI k) dl ca sn bm dn wc nb ns ba ds mk vt bo ys yv nt yz → wY_snapshot_66 post x1 dl ca sn bm dn wc nb ns ba ds mk vt bo ys yv nt yz (e + 1) (nI i)) := by
  intro e
  induction e with
  | zero =>
    intro i hi
    have hi : i = 6 := by omega
    subst hi
    refine ⟨6, by decide, ?_, ?_⟩
    · intros; exact br_t (by decide) (by assumption)
    · intros; exact br_t (by decide) (by assumption)
  | succ e ih =>
    intro i hi
    have h6 : ¬ (6 : Int32) ≤ nI i := nI_ge (b := 6) (by omega) (by decide)
    have hin : vp_in (nI i) 6 := vp_in_nI (by omega) (by omega)
    by_cases z : vt i = 0
    · refine ⟨i, by omega, ?_, ?_⟩
      · intro wc dl ns nb ca dn sn bm ba ds mk wo bo us ws wv nt post h
        rw [if_neg (by omega)] at h
        refine br_f h6 ⟨hin, ?_⟩
        rw [nI_clamp (by omega)]
        exact br_t z h
      · intros
        refine br_f h6 ⟨hin, ?_⟩
        rw [nI_clamp (by omega)]
        exact br_t z (by assumption)
    · obtain ⟨k, hk, hX, hY⟩ := ih (i + 1) (by omega)
      refine ⟨k, hk, ?_, ?_⟩
      · intro wc dl ns nb ca dn sn bm ba ds mk wo bo us ws wv nt post h
        refine br_f h6 ⟨hin, ?_⟩
        rw [nI_clamp (by omega)]
        exact br_f z (nm_r (nI_1 i) (hX post h))
      · intro dl ca sn bm dn wc nb ns ba ds mk bo ys yv nt yz post x1 h
        refine br_f h6 ⟨hin, ?_⟩
        rw [nI_clamp (by omega)]
        exact br_f z (nm_r (nI_1 i) (hY post x1 h))
theorem sc_l {v k w d s b c : Nat} (hv : v < 6) (hk : k < 6) : ∀ (e i : Nat) (bo us : Nat → Int32), i + e = 20 → rl_i w d s b c ca ba ds mk bo us ws wv ys yv nt → ∃ bo' us' : Nat → Int32, rl_i w d s b c ca ba ds mk bo' us' ws wv ys yv nt ∧ (∀ post : Int32 → SX → Prop, post (nI k) (nI w, nI d, nI s, nI b, ca, dn, nI c, bm, ba, ds, mk, wo, vt, bo', us', ws, wv, nt) → wX_snapshot_100 post (nI v) (nI k) (e + 1) (nI i) (nI w) (nI d) (nI s) (nI b) ca dn (nI c) bm ba ds mk wo vt bo us ws wv nt) ∧ (∀ post : Int32 → SY → Prop, post (nI k) (nI d, ca, nI c, bm, dn, nI w, nI b, nI s, ba, ds, mk, vt, bo', ys, yv, nt, yz) → wY_snapshot_106 post (nI v) (nI k) (nI d) ca (nI c) bm dn (nI w) (nI b) (nI s) (e + 1) (nI i) ba ds mk vt bo ys yv nt yz) := by
  intro e
  induction e with
  | zero =>
    intro i bo us hi H
    rw [show i = 20 by omega]
    exact ⟨bo, us, H, fun post hp => br_t (by decide) hp, fun post hp => br_t (by decide) hp⟩
  | succ e ih =>
    intro i bo us hi H
    have h20 : ¬ (20 : Int32) ≤ nI i := nI_ge (b := 20) (by omega) (by decide)
    have hbo := H.2.2.2.2.2.2.2.2.1
    have hx : bk_k (bo (v * 20 + i)) := hbo _ (by omega)
    obtain ⟨bo', us', R, hX, hY⟩ := ih (i + 1) _ _ (by omega) (rl_bo (l := k * 20 + i) (by omega) hx H)
    refine ⟨bo', us', R, fun post hp => br_f h20 ⟨pk_in (v * 20 + i) 120 (by omega) (rb_slot v i), ?_⟩, fun post hp => br_f h20 ⟨pk_in (v * 20 + i) 120 (by omega) (rb_slot' v i), pk_in (k * 20 + i) 120 (by omega) (rb_slot' k i), ?_⟩⟩
    · rw [rb_slot, rb_slot, nI_clamp (by omega)]
      exact xo_p (by omega) hx hbo (nm_r (nI_1 i) (hX post hp))
    · rw [rb_slot', rb_slot', nI_clamp (by omega), nI_clamp (by omega)]
      exact nm_e (nm_r (nI_1 i) (hY post hp))
theorem sn_e {v w d s b c : Nat} (hv : v < 6) (H : rl_i w d s b c ca ba ds mk bo us ws wv ys yv nt) : si_m (fun post => wX_snapshot_78 post (nI v) (nI w) (nI d) (nI s) (nI b) ca dn (nI c) bm ba ds mk wo vt bo us ws wv nt) (fun post => ∃ n66 : Nat, wY_snapshot_66 post (nI v) (nI d) ca (nI c) bm dn (nI w) (nI b) (nI s) ba ds mk vt bo ys yv nt yz n66 0) := by
  obtain ⟨k, hk, hX, hY⟩ := la_l (vt := vt) 6 0 (by omega)
  by_cases h6 : k = 6
  · subst h6
    refine ⟨-2, _, _, rl_m (dn := dn) (bm := bm) (wo := wo) (vt := vt) (yz := yz) H, fun post hp => ?_, fun post hp => ⟨7, hY post _ (br_t rfl hp)⟩⟩
    exact ⟨7, hX _ (br_f rb_n1le hp)⟩
  · obtain ⟨bo', us', R, cX, cY⟩ := sc_l (v := v) (k := k) (dn := dn) (bm := bm) (wo := wo) (vt := upd vt k (vp_nar .boolean 1)) (yz := yz) hv (by omega) 20 0 bo us (by omega) H
    refine ⟨nI k, _, _, rl_m (dn := dn) (bm := bm) (wo := wo) (vt := upd vt k (vp_nar .boolean 1)) (yz := yz) R, fun post hp => ?_, fun post hp => ⟨7, hY post _ ?_⟩⟩
    · refine ⟨7, hX _ ?_⟩
      rw [if_neg h6]
      refine br_t (nI_pos' (by omega)) ⟨vp_in_nI (by omega) (by omega), ?_⟩
      rw [nI_clamp (by omega)]
      exact nm_e ⟨21, cX post hp⟩
    · refine pk_eq k 6 (fun z => absurd z h6) (fun _ => ⟨vp_in_nI (by omega) (by omega), ?_⟩)
      rw [nI_clamp (by omega)]
      exact nm_e ⟨21, cY post hp⟩
theorem sn_l {v d : Nat} (hv : v < 6) : ∀ (e a i w s b c : Nat) (ca dn bm : Int32) (ba ds mk wo vt bo us ws wv nt ys yv yz : Nat → Int32), a + e = w → e + i ≤ 6 → rl_i w d s b c ca ba ds mk bo us ws wv ys yv nt → si_m (fun post => wX_snapshot_24 post (nI v) (e + 1) (nI a) (nI i) (nI w) (nI d) (nI s) (nI b) ca dn (nI c) bm ba ds mk wo vt bo us ws wv nt) (fun post => wY_snapshot_22 post (nI v) (e + 1) (nI a) (nI d) ca (nI c) bm dn (nI w) (nI b) (nI s) ba ds mk vt bo ys yv nt yz) := by
  intro e
  induction e with
  | zero =>
    intro a i w s b c ca dn bm ba ds mk wo vt bo us ws wv nt ys yv yz ha hi H
    have hw6 : w ≤ 6 := Nat.le_trans H.1 H.2.1
    obtain ⟨r, u', v', R, hX, hY⟩ := sn_e (v := v) (dn := dn) (bm := bm) (wo := wo) (vt := vt) (yz := yz) hv H
    have hle : nI w ≤ nI a := nI_le (by omega) (by omega)
    exact ⟨r, u', v', R, fun post hp => br_c (fun _ => hX post hp) (fun _ => br_t hle (hX post hp)), fun post hp => br_t hle (hY post hp)⟩
  | succ e ih =>
    intro a i w s b c ca dn bm ba ds mk wo vt bo us ws wv nt ys yv yz ha hi H
    have hw6 : w ≤ 6 := Nat.le_trans H.1 H.2.1
    have h6 : ¬ (6 : Int32) ≤ nI i := nI_ge (b := 6) (by omega) (by decide)
    have hge : ¬ nI w ≤ nI a := nI_ge (by omega) (by omega)
    have hin : vp_in (nI a) 6 := vp_in_nI (by omega) (by omega)
    have hya := (H.2.2.2.2.2.2.2.2.2.2.1.1 a (by omega)).1
    by_cases z : ws a / 20 = nI v
    · obtain ⟨r2, w2, s2, b2, ca2, dn2, ba2, wo2, bo2, us2, ws2, wv2, nt2, ys2, yv2, yz2, R2, hr2, _, wX, wY⟩ := ww_r (a := a) (dn := dn) (bm := bm) (wo := wo) (vt := vt) (yz := yz) (by omega) H
      by_cases y : r2 = 0
      · have hw2 := hr2 y
        obtain ⟨r, u', v', R, hX, hY⟩ := ih a (i + 1) w2 s2 b2 c ca2 dn2 bm ba2 ds mk wo2 vt bo2 us2 ws2 wv2 nt2 ys2 yv2 yz2 (by omega) (by omega) R2
        refine ⟨r, u', v', R, fun post hp => br_f h6 (br_f hge ⟨hin, rb_20, ?_⟩), fun post hp => br_f hge ⟨hin, rb_20, ?_⟩⟩
        · rw [nI_clamp (by omega)]; exact br_t z (wX _ (br_t y (nm_r (nI_1 i) (hX post hp))))
        · rw [nI_clamp (by omega), hya]; exact br_t z (wY _ (br_t y (hY post hp)))
      · refine ⟨r2, _, _, rl_m (dn := dn2) (bm := bm) (wo := wo2) (vt := vt) (yz := yz2) R2, fun post hp => br_f h6 (br_f hge ⟨hin, rb_20, ?_⟩), fun post hp => br_f hge ⟨hin, rb_20, ?_⟩⟩
        · rw [nI_clamp (by omega)]; exact br_t z (wX _ (br_f y hp))
        · rw [nI_clamp (by omega), hya]; exact br_t z (wY _ (br_f y hp))
    · obtain ⟨r, u', v', R, hX, hY⟩ := ih (a + 1) (i + 1) w s b c ca dn bm ba ds mk wo vt bo us ws wv nt ys yv yz (by omega) (by omega) H
      refine ⟨r, u', v', R, fun post hp => br_f h6 (br_f hge ⟨hin, rb_20, ?_⟩), fun post hp => br_f hge ⟨hin, rb_20, ?_⟩⟩
      · rw [nI_clamp (by omega)]; exact br_f z (nm_r (nI_1 a) (nm_r (nI_1 i) (hX post hp)))
      · rw [nI_clamp (by omega), hya]; exact br_f z (nm_r (nI_1 a) (hY post hp))
theorem si_snapshot {u : SX} {v : SY} (R : rl_s u v) (p0 : Int32) : si_m (fun post => wpX_snapshot post u p0) (fun post => wpY_snapshot post v p0) := by
  obtain ⟨w, d, s, b, c, ca, dn, bm, ba, ds, mk, wo, vt, bo, us, ws, wv, nt, ys, yv, yz, rfl, rfl, H⟩ := R
  by_cases hdn : dn = 0
  · obtain ⟨r, hr, vX, vY⟩ := vo_r (vt := vt) p0
    rcases hr with rfl | ⟨rfl, v, hv, rfl⟩
    · exact ⟨-1, _, _, rl_m H, fun post hp => br_t hdn (vX _ (br_t rfl hp)), fun post hp => br_t hdn (vY _ (br_t rfl hp))⟩
    · have hw6 : w ≤ 6 := Nat.le_trans H.1 H.2.1
      obtain ⟨r, u', v', R, hX, hY⟩ := sn_l (v := v) hv w 0 0 w s b c ca dn bm ba ds mk wo vt bo us ws wv nt ys yv yz (by omega) (by omega) H
      exact ⟨r, u', v', R, fun post hp => br_t hdn (vX _ (br_f (by decide) ⟨_, hX post hp⟩)), fun post hp => br_t hdn (vY _ (br_f (by decide) ⟨_, hY post hp⟩))⟩
  · exact ⟨-4, _, _, rl_m H, fun post hp => br_f hdn hp, fun post hp => br_f hdn hp⟩
/-! how many blocks have so many lblocks on them -/
def cn_b (bo : Nat → Int32) (lo hi : Nat) : Nat → Nat
  | 0 => 0
  | n + 1 => cn_b bo lo hi n + if lo ≤ ct_n bo (nI n) 120 ∧ ct_n bo (nI n) 120 ≤ hi then 1 else 0
theorem cb_l {post : Int32 → Prop} {lo hi : Nat} (hu : us_k us bo) (hlo : lo < 2 ^ 31) (hhi : hi < 2 ^ 31) (hp : post (nI (cn_b bo lo hi 64))) : ∀ e i : Nat, i + e = 64 → wX_countBlocks_5 post (nI lo) (nI hi) wc dl ns nb ca dn sn bm ba ds mk wo vt bo us ws wv nt (e + 1) (nI (cn_b bo lo hi i)) (nI i) := by
  intro e
  induction e with
  | zero =>
    intro i hi'
    rw [show i = 64 by omega]
    exact br_t (by decide) hp
  | succ e ih =>
    intro i hi'
    have ih := ih (i + 1) (by omega)
    have hle := ct_le (bo := bo) (nI i) 120
    have hin : vp_in (nI i) 64 := vp_in_nI (by omega) (by omega)
    have e1 : cn_b bo lo hi (i + 1) = cn_b bo lo hi i + if lo ≤ ct_n bo (nI i) 120 ∧ ct_n bo (nI i) 120 ≤ hi then 1 else 0 := rfl
    rw [e1] at ih
    refine br_f (nI_ge (b := 64) (by omega) (by decide)) ⟨hin, ?_⟩
    rw [nI_clamp (by omega), hu i (by omega)]
    refine pk_lt _ _ (fun z => nm_r (nI_1 i) ?_) (fun z => ⟨hin, pk_lt _ _ (fun y => nm_r (nI_1 i) ?_) (fun y => nm_r (nI_1 _) (nm_r (nI_1 i) ?_))⟩)
    · rw [if_neg (by omega)] at ih; exact ih
    · rw [if_neg (by omega)] at ih; exact ih
    · rw [if_pos (by omega)] at ih; exact ih
theorem cb_r {post : Int32 → Prop} {lo hi : Nat} (hu : us_k us bo) (hlo : lo < 2 ^ 31) (hhi : hi < 2 ^ 31) (hp : post (nI (cn_b bo lo hi 64))) : wpX_countBlocks post (wc, dl, ns, nb, ca, dn, sn, bm, ba, ds, mk, wo, vt, bo, us, ws, wv, nt) (nI lo) (nI hi) :=
  ⟨65, cb_l hu hlo hhi hp 64 0 (by omega)⟩
theorem fr_l {post : Int32 → Prop} (hp : post (nI (cn_b bo 0 0 64))) : ∀ e i : Nat, i + e = 64 → wY_free_4 post dl ca sn bm dn wc nb ns ba ds mk vt bo ys yv nt yz (e + 1) (nI (cn_b bo 0 0 i)) (nI i) := by
  intro e
  induction e with
  | zero =>
    intro i hi'
    rw [show i = 64 by omega]
    exact br_t (by decide) hp
  | succ e ih =>
    intro i hi'
    have ih := ih (i + 1) (by omega)
    have hle := ct_le (bo := bo) (nI i) 120
    have e1 : cn_b bo 0 0 (i + 1) = cn_b bo 0 0 i + if 0 ≤ ct_n bo (nI i) 120 ∧ ct_n bo (nI i) 120 ≤ 0 then 1 else 0 := rfl
    rw [e1] at ih
    refine br_f (nI_ge (b := 64) (by omega) (by decide)) (yu_r (pk_eq _ 0 (fun z => nm_r (nI_1 _) (nm_r (nI_1 i) ?_)) (fun z => nm_r (nI_1 i) ?_)))
    · rw [if_pos (by omega)] at ih; exact ih
    · rw [if_neg (by omega)] at ih; exact ih
theorem fr_r {post : Int32 → Prop} (hp : post (nI (cn_b bo 0 0 64))) : wpY_free post (dl, ca, sn, bm, dn, wc, nb, ns, ba, ds, mk, vt, bo, ys, yv, nt, yz) := ⟨65, fr_l hp 64 0 (by omega)⟩
/-! drop -/
def dr_b (bo : Nat → Int32) (v : Nat) : Nat → Nat → Int32
  | 0 => bo
  | i + 1 => upd (dr_b bo v i) (v * 20 + i) (-1)
theorem dr_k {v : Nat} (h : bo_k bo) : ∀ i : Nat, bo_k (dr_b bo v i) := by
  intro i
  induction i with
  | zero => exact h
  | succ i ih => exact bo_p bk_n ih
/-- those that stay, in their order -/
def ql_f (v : Nat) (a b : Nat → Int32) : Nat → List (Int32 × Int32)
  | 0 => []
  | n + 1 => ql_f v a b n ++ if a n / 20 = nI v then [] else [(a n, b n)]
theorem ql_e {v : Nat} {a b a' b' : Nat → Int32} : ∀ n : Nat, (∀ j : Nat, j < n → a' j = a j ∧ b' j = b j) → ql_f v a' b' n = ql_f v a b n := by
  intro n
  induction n with
  | zero => intro _; rfl
  | succ n ih =>
    intro h
    show ql_f v a' b' n ++ (if a' n / 20 = nI v then [] else [(a' n, b' n)]) = ql_f v a b n ++ (if a n / 20 = nI v then [] else [(a n, b n)])
    rw [ih (fun j hj => h j (by omega)), (h n (by omega)).1, (h n (by omega)).2]
theorem ql_s {v i : Nat} {a b : Nat → Int32} (hi : a i / 20 = nI v) : ∀ n e : Nat, i + n ≤ e → ql_f v (sh_f a i e) (sh_f b i e) (i + n) = ql_f v a b (i + n + 1) := by
  intro n
  induction n with
  | zero =>
    intro e he
    show ql_f v (sh_f a i e) (sh_f b i e) i = ql_f v a b i ++ (if a i / 20 = nI v then [] else [(a i, b i)])
    rw [if_pos hi, List.append_nil]
    exact ql_e i (fun j hj => ⟨sh_lo hj, sh_lo hj⟩)
  | succ n ih =>
    intro e he
    have e1 : ql_f v (sh_f a i e) (sh_f b i e) (i + (n + 1)) = ql_f v (sh_f a i e) (sh_f b i e) (i + n) ++ (if sh_f a i e (i + n) / 20 = nI v then [] else [(sh_f a i e (i + n), sh_f b i e (i + n))]) := rfl
    have e2 : ql_f v a b (i + (n + 1) + 1) = ql_f v a b (i + n + 1) ++ (if a (i + n + 1) / 20 = nI v then [] else [(a (i + n + 1), b (i + n + 1))]) := rfl
    rw [e1, e2, ih e (by omega), sh_hi (a := a) (by omega) (by omega), sh_hi (a := b) (by omega) (by omega)]
theorem ql_r {v i w : Nat} {a b : Nat → Int32} (hi : a i / 20 = nI v) (hw : i ≤ w) : ql_f v (sh_f a i w) (sh_f b i w) w = ql_f v a b (w + 1) := by
  have := ql_s (b := b) hi (w - i) w (by omega)
  rw [show i + (w - i) = w by omega] at this
  exact this
theorem ql_a {v : Nat} {a b : Nat → Int32} : ∀ w : Nat, (∀ j : Nat, j < w → ¬ a j / 20 = nI v) → (ql_f v a b w).length = w ∧ ∀ j : Nat, j < w → (ql_f v a b w)[j]? = some (a j, b j) := by
  intro w
  induction w with
  | zero => intro _; exact ⟨rfl, fun j hj => absurd hj (by omega)⟩
  | succ w ih =>
    intro h
    obtain ⟨h1, h2⟩ := ih (fun j hj => h j (by omega))
    have e1 : ql_f v a b (w + 1) = ql_f v a b w ++ [(a w, b w)] := by
      show ql_f v a b w ++ (if a w / 20 = nI v then [] else [(a w, b w)]) = _
      rw [if_neg (h w (by omega))]
    rw [e1]
    refine ⟨by rw [List.length_append, h1]; rfl, fun j hj => ?_⟩
    by_cases c : j < w
    · rw [List.getElem?_append_left (by omega)]
      exact h2 j c
    · have hjw : j = w := by omega
      subst hjw
      rw [List.getElem?_append_right (by omega), h1, Nat.sub_self]
      rfl
theorem wt_x {w : Nat} (h : wt_k w ws wv ys yv) : wt_k w ws wv ws wv := ⟨fun i hi => ⟨rfl, rfl, (h.1 i hi).2.2⟩, h.2⟩
theorem wt_y {w : Nat} (h : wt_k w ws wv ys yv) : wt_k w ys yv ys yv := ⟨fun i hi => ⟨rfl, rfl, by rw [(h.1 i hi).1, (h.1 i hi).2.1]; exact (h.1 i hi).2.2⟩, fun i j hij hj => by rw [(h.1 i (by omega)).1, (h.1 j hj).1]; exact h.2 i j hij hj⟩
theorem sl_20 {v k : Nat} (hv : v < 6) (hk : k < 20) : nI (v * 20 + k) / 20 = nI v := by
  rw [rb_d20 (by omega), show (v * 20 + k) / 20 = v by omega]
theorem xg_l {v : Nat} (hv : v < 6) (hb : bo_k bo) : ∀ (e i w : Nat) (us ws wv : Nat → Int32), i + e = 20 → w ≤ 6 → us_k us (dr_b bo v i) → wt_k w ws wv ws wv → (∀ k : Nat, k < i → ∀ j : Nat, j < w → ws j ≠ nI (v * 20 + k)) → ∃ (w' : Nat) (us' ws' wv' : Nat → Int32), w' ≤ w ∧ us_k us' (dr_b bo v 20) ∧ wt_k w' ws' wv' ws' wv' ∧ (∀ k : Nat, k < 20 → ∀ j : Nat, j < w' → ws' j ≠ nI (v * 20 + k)) ∧ ql_f v ws' wv' w' = ql_f v ws wv w ∧ (∀ {dl ns nb ca dn sn bm : Int32} {ba ds mk wo vt nt : Nat → Int32} (post : Int32 → SX → Prop) (x2 : Int32), wX_drop_29 post (nI v) x2 1 (nI 20) (nI w') dl ns nb ca dn sn bm ba ds mk wo vt (dr_b bo v 20) us' ws' wv' nt → wX_drop_29 post (nI v) x2 (e + 1) (nI i) (nI w) dl ns nb ca dn sn bm ba ds mk wo vt (dr_b bo v i) us ws wv nt) := by
  intro e
  induction e with
  | zero =>
    intro i w us ws wv hi hw hu hk hn
    have hi : i = 20 := by omega
    subst hi
    refine ⟨w, us, ws, wv, Nat.le_refl w, hu, hk, hn, rfl, ?_⟩
    intros
    assumption
  | succ e ih =>
    intro i w us ws wv hi hw hu hk hn
    have h20 : ¬ (20 : Int32) ≤ nI i := nI_ge (b := 20) (by omega) (by decide)
    have hbi := dr_k (v := v) hb i
    obtain ⟨r, w', ws', wv', ys', yv', hk', hn', hlt, hge, fX, _, _⟩ := fg_r (l := v * 20 + i) hw hk
    have hq : w' ≤ w ∧ ql_f v ws' wv' w' = ql_f v ws wv w ∧ ∀ j : Nat, j < w' → ∃ m : Nat, m < w ∧ ws' j = ws m := by
      by_cases hr : r < 0
      · obtain ⟨rfl, rfl, rfl, _, _⟩ := hlt hr
        exact ⟨Nat.le_refl _, rfl, fun j hj => ⟨j, hj, rfl⟩⟩
      · obtain ⟨hw', a, ha, hl, rfl, rfl⟩ := hge hr
        subst hw'
        refine ⟨by omega, ql_r (by rw [hl]; exact sl_20 hv (by omega)) ha, fun j hj => ?_⟩
        obtain ⟨m, hm, e⟩ := sh_at (a := ws) (i := a) hj
        exact ⟨m, by omega, e ws⟩
    obtain ⟨hq1, hq2, hq3⟩ := hq
    obtain ⟨w2, us2, ws2, wv2, g1, g2, g3, g4, g5, g6⟩ := ih (i + 1) w' (pu_i (pu_d us (dr_b bo v i (v * 20 + i))) (-1)) ws' wv' (by omega) (by omega) (us_p (by omega) bk_n hbi hu) (wt_x hk') (fun k hk j hj => by
      by_cases c : k = i
      · rw [c]; exact hn' j hj
      · obtain ⟨m, hm, e⟩ := hq3 j hj
        rw [e]
        exact hn k (by omega) m hm)
    refine ⟨w2, us2, ws2, wv2, by omega, g2, g3, g4, by rw [g5, hq2], ?_⟩
    intro dl ns nb ca dn sn bm ba ds mk wo vt nt post x2 hp
    refine br_f h20 ?_
    rw [rb_slot]
    exact xo_p (by omega) bk_n hbi (fX _ (nm_r (nI_1 i) (g6 post x2 hp)))
theorem yg_b {post : Int32 → SY → Prop} {v : Nat} {x2 : Int32} (hv : v < 6) (h : wY_drop_34 post (nI v) x2 dl ca sn bm dn wc nb ns 1 (nI 20) ba ds mk vt (dr_b bo v 20) ys yv nt yz) : ∀ e i : Nat, i + e = 20 → wY_drop_34 post (nI v) x2 dl ca sn bm dn wc nb ns (e + 1) (nI i) ba ds mk vt (dr_b bo v i) ys yv nt yz := by
  intro e
  induction e with
  | zero =>
    intro i hi
    rw [show i = 20 by omega]
    exact h
  | succ e ih =>
    intro i hi
    refine br_f (nI_ge (b := 20) (by omega) (by decide)) ⟨pk_in (v * 20 + i) 120 (by omega) (rb_slot' v i), ?_⟩
    rw [rb_slot', nI_clamp (by omega)]
    exact nm_e (nm_r (nI_1 i) (ih (i + 1) (by omega)))
theorem yg_l {v : Nat} : ∀ (i w : Nat) (ys yv : Nat → Int32), i ≤ w → w ≤ 6 → wt_k w ys yv ys yv → (∀ j : Nat, i ≤ j → j < w → ¬ ys j / 20 = nI v) → ∃ (w' : Nat) (ys' yv' : Nat → Int32), w' ≤ w ∧ wt_k w' ys' yv' ys' yv' ∧ (∀ j : Nat, j < w' → ¬ ys' j / 20 = nI v) ∧ ql_f v ys' yv' w' = ql_f v ys yv w ∧ (∀ {dl ca sn bm dn nb ns : Int32} {ba ds mk vt bo nt yz : Nat → Int32} (post : Int32 → SY → Prop) (x2 : Int32), wY_drop_65 post (nI v) x2 1 (-1) dl ca sn bm dn (nI w') nb ns ba ds mk vt bo ys' yv' nt yz → wY_drop_65 post (nI v) x2 (i + 1) (nI i + (-1)) dl ca sn bm dn (nI w) nb ns ba ds mk vt bo ys yv nt yz) := by
  intro i
  induction i with
  | zero =>
    intro w ys yv hi hw hk hn
    refine ⟨w, ys, yv, Nat.le_refl w, hk, fun j hj => hn j (by omega) hj, rfl, ?_⟩
    intros
    assumption
  | succ i ih =>
    intro w ys yv hi hw hk hn
    have h0 : ¬ nI i < 0 := nI_pos (by omega)
    have hin : vp_in (nI i) 6 := vp_in_nI (by omega) (by omega)
    by_cases z : ys i / 20 = nI v
    · obtain ⟨m, rfl⟩ : ∃ m, w = m + 1 := ⟨w - 1, by omega⟩
      obtain ⟨w', ys', yv', g1, g2, g3, g4, g5⟩ := ih m (sh_f ys i m) (sh_f yv i m) (by omega) (by omega) (wt_x (wt_rm (by omega) hk)) (fun j hj hjm => by rw [sh_hi hj hjm]; exact hn (j + 1) (by omega) (by omega))
      refine ⟨w', ys', yv', by omega, g2, g3, by rw [g4, ql_r z (by omega)], ?_⟩
      intro dl ca sn bm dn nb ns ba ds mk vt bo nt yz post x2 hp
      rw [pk_m1]
      refine br_f h0 ⟨hin, rb_20, ?_⟩
      rw [nI_clamp (by omega)]
      exact br_t z (yr_r (by omega) (by omega) (nm_e (g5 post x2 hp)))
    · obtain ⟨w', ys', yv', g1, g2, g3, g4, g5⟩ := ih w ys yv (by omega) hw hk (fun j hj hjw => by
        by_cases c : j = i
        · rw [c]; exact z
        · exact hn j (by omega) hjw)
      refine ⟨w', ys', yv', g1, g2, g3, g4, ?_⟩
      intro dl ca sn bm dn nb ns ba ds mk vt bo nt yz post x2 hp
      rw [pk_m1]
      refine br_f h0 ⟨hin, rb_20, ?_⟩
      rw [nI_clamp (by omega)]
      exact br_f z (nm_e (g5 post x2 hp))
theorem si_drop {u : SX} {v : SY} (R : rl_s u v) (p0 : Int32) : si_m (fun post => wpX_drop post u p0) (fun post => wpY_drop post v p0) := by
  obtain ⟨w, d, s, b, c, ca, dn, bm, ba, ds, mk, wo, vt, bo, us, ws, wv, nt, ys, yv, yz, rfl, rfl, H⟩ := R
  by_cases hdn : dn = 0
  · obtain ⟨r, hr, vX, vY⟩ := vo_r (vt := vt) p0
    rcases hr with rfl | ⟨rfl, v, hv, rfl⟩
    · exact ⟨-1, _, _, rl_m H, fun post hp => br_t hdn (vX _ (br_t rfl hp)), fun post hp => br_t hdn (vY _ (br_t rfl hp))⟩
    · have hw6 : w ≤ 6 := Nat.le_trans H.1 H.2.1
      obtain ⟨hwd, hd, hs, hb, hc, hca, hby, hdk, hbo, hus, hwt, hnt⟩ := H
      have hin : vp_in (nI v) 6 := vp_in_nI hv (by omega)
      obtain ⟨w1, us1, ws1, wv1, a1, a2, a3, a4, a5, a6⟩ := xg_l (v := v) hv hbo 20 0 w us ws wv (by omega) hw6 hus (wt_x hwt) (fun k hk => absurd hk (by omega))
      obtain ⟨w2, ys2, yv2, b1, b2, b3, b4, b5⟩ := yg_l (v := v) w w ys yv (Nat.le_refl w) hw6 (wt_y hwt) (fun j hj hjw => absurd hj (by omega))
      have hX : ∀ j : Nat, j < w1 → ¬ ws1 j / 20 = nI v := by
        intro j hj z
        obtain ⟨l, hl, e⟩ := (a3.1 j hj).2.2.1
        rw [e, rb_d20 (by omega), nI_eq (by omega) (by omega)] at z
        exact a4 (l % 20) (by omega) j hj (by rw [e, show v * 20 + l % 20 = l by omega])
      have hq : ql_f v ws1 wv1 w1 = ql_f v ys2 yv2 w2 := by
        rw [a5, b4]
        exact (ql_e w (fun j hj => ⟨(hwt.1 j hj).1, (hwt.1 j hj).2.1⟩)).symm
      obtain ⟨c1, c2⟩ := ql_a (b := wv1) w1 hX
      obtain ⟨d1, d2⟩ := ql_a (b := yv2) w2 b3
      have hww : w2 = w1 := by rw [← c1, hq, d1]
      subst hww
      have hk2 : wt_k w2 ws1 wv1 ys2 yv2 := by
        refine ⟨fun i hi => ?_, a3.2⟩
        have e1 := c2 i hi
        rw [hq, d2 i hi] at e1
        have e2 := Option.some.inj e1
        exact ⟨congrArg Prod.fst e2, congrArg Prod.snd e2, (a3.1 i hi).2.2⟩
      refine ⟨nI (cn_b (dr_b bo v 20) 0 0 64) - nI (cn_b bo 0 0 64), _, _, rl_m (dn := dn) (bm := bm) (wo := wo) (vt := upd vt v (vp_nar .boolean 0)) (yz := yz) (⟨by omega, hd, hs, hb, hc, hca, hby, hdk, dr_k hbo 20, a2, hk2, hnt⟩ : rl_i w2 d s b c ca ba ds mk (dr_b bo v 20) us1 ws1 wv1 ys2 yv2 nt), fun post hp => br_t hdn (vX _ (br_f (by decide) (cb_r (lo := 0) (hi := 0) hus (by decide) (by decide) ⟨21, a6 post _ (br_t (by decide) ⟨hin, ?_⟩)⟩))), fun post hp => br_t hdn (vY _ (br_f (by decide) (fr_r ⟨hin, ?_⟩)))⟩
      · rw [nI_clamp (by omega)]
        exact nm_e (cb_r (lo := 0) (hi := 0) a2 (by decide) (by decide) hp)
      · rw [nI_clamp (by omega)]
        refine nm_e ⟨21, yg_b hv ?_ 20 0 (by omega)⟩
        refine br_t (by decide) (nm_r (Int32.sub_eq_add_neg (nI w) 1) ⟨w + 1, b5 post _ (br_t rb_n1lt (fr_r hp))⟩)
  · exact ⟨-4, _, _, rl_m H, fun post hp => br_f hdn hp, fun post hp => br_f hdn hp⟩
end
end
section
section
variable {wc dl ns nb ca dn sn bm : Int32} {ba ds mk wo vt bo us ws wv nt ys yv yz : Nat → Int32}
/-! rebuild -/
theorem ln_l : ∀ e i : Nat, i + e = 6 → ∃ k : Nat, k ≤ 6 ∧ (k < 6 → ds k = 2) ∧ (∀ {wc dl ns nb ca dn sn bm : Int32} {ba mk wo vt bo us ws wv nt : Nat → Int32} (post : Int32 → Prop), post (if k = 6 then -1 else nI k) → wX_leastNewDisk_2 post wc dl ns nb ca dn sn bm ba ds mk wo vt bo us ws wv nt (e + 1) (nI i)) ∧ (∀ {dl ca sn bm dn wc nb ns : Int32} {ba mk vt bo ys yv nt yz : Nat → Int32} (post : Int32 → Prop), post (nI k) → wY_leastNew_2 post dl ca sn bm dn wc nb ns ba ds mk vt bo ys yv nt yz (e + 1) (nI i)) := by
  intro e
  induction e with
  | zero =>
    intro i hi
    have hi : i = 6 := by omega
    subst hi
    refine ⟨6, by decide, fun h => absurd h (by decide), ?_, ?_⟩
    · intros; exact br_t (by decide) (by assumption)
    · intros; exact br_t (by decide) (by assumption)
  | succ e ih =>
    intro i hi
    have h6 : ¬ (6 : Int32) ≤ nI i := nI_ge (b := 6) (by omega) (by decide)
    have hin : vp_in (nI i) 6 := vp_in_nI (by omega) (by omega)
    by_cases z : ds i = 2
    · refine ⟨i, by omega, fun _ => z, ?_, ?_⟩
      · intro wc dl ns nb ca dn sn bm ba mk wo vt bo us ws wv nt post h
        rw [if_neg (by omega)] at h
        refine br_f h6 ⟨hin, ?_⟩
        rw [nI_clamp (by omega)]
        exact br_t z h
      · intros
        refine br_f h6 ⟨hin, ?_⟩
        rw [nI_clamp (by omega)]
        exact br_t z (by assumption)
    · obtain ⟨k, hk, hk2, hX, hY⟩ := ih (i + 1) (by omega)
      refine ⟨k, hk, hk2, ?_, ?_⟩
      · intro wc dl ns nb ca dn sn bm ba mk wo vt bo us ws wv nt post h
        refine br_f h6 ⟨hin, ?_⟩
        rw [nI_clamp (by omega)]
        exact br_f z (nm_r (nI_1 i) (hX post h))
      · intro dl ca sn bm dn wc nb ns ba mk vt bo ys yv nt yz post h
        refine br_f h6 ⟨hin, ?_⟩
        rw [nI_clamp (by omega)]
        exact br_f z (nm_r (nI_1 i) (hY post h))
def ds_u (ds : Nat → Int32) (k m : Nat) : Nat → Int32 := if m + 1 = 16 then upd ds k 0 else ds
theorem ds_k {k m : Nat} (hm : m < 16) (h : dk_k ds mk) : dk_k (ds_u ds k m) (upd mk k (nI (m + 1))) := by
  unfold ds_u
  intro i hi
  by_cases c : i = k
  · rw [c, pk_us]
    refine ⟨m + 1, by omega, rfl, ?_⟩
    by_cases e : m + 1 = 16
    · rw [if_pos e, pk_us]
      intro z
      exact absurd z (by decide)
    · intro _; omega
  · rw [pk_un c]
    obtain ⟨n, hn, e1, e2⟩ := h i hi
    refine ⟨n, hn, e1, ?_⟩
    by_cases e : m + 1 = 16
    · rw [if_pos e, pk_un c]; exact e2
    · rw [if_neg e]; exact e2
theorem xb_40 {post : SX → Prop} {k m : Nat} {z : Int32} (hk : k < 6) (hm : m < 16) (h : post (wc, dl, ns, nb, ca, dn, sn, bm, upd ba (k * 16 + m) z, ds_u ds k m, upd mk k (nI (m + 1)), wo, vt, bo, us, ws, wv, nt)) : wX_rebuildByte_40 post (nI k) (nI m) z wc dl ns nb ca dn sn bm ba ds mk wo vt bo us ws wv nt := by
  have hin : vp_in (nI k) 6 := vp_in_nI hk (by omega)
  refine ⟨pk_in (k * 16 + m) 96 (by omega) (rb_cell k m), ?_⟩
  rw [rb_cell, nI_clamp (by omega)]
  refine nm_e ⟨hin, ?_⟩
  rw [nI_clamp (by omega), nI_1]
  refine nm_e ⟨hin, ?_⟩
  rw [pk_us]
  unfold ds_u at h
  refine pk_eq (m + 1) 16 (fun c => ⟨hin, ?_⟩) (fun c => ?_)
  · rw [if_pos c] at h; exact nm_e h
  · rw [if_neg c] at h; exact h
theorem yb_93 {post : Int32 → SY → Prop} {J : Int32 → Int32 → Int32 → Int32 → Int32 → Int32 → Int32 → Int32 → Int32 → (Nat → Int32) → (Nat → Int32) → (Nat → Int32) → (Nat → Int32) → (Nat → Int32) → (Nat → Int32) → (Nat → Int32) → (Nat → Int32) → (Nat → Int32) → Prop} {x1 : Int32} {i k m : Nat} {z : Int32} (hk : k < 6) (hm : m < 16) (hmk : mk k = nI m) (h : J (nI (i + 1)) dl ca sn bm dn wc nb ns (upd ba (k * 16 + m) z) (ds_u ds k m) (upd mk k (nI (m + 1))) vt bo ys yv nt yz) : wY_rebuild_93 post J x1 (nI i) (nI k) (nI m) z dl ca sn bm dn wc nb ns ba ds mk vt bo ys yv nt yz := by
  have hin : vp_in (nI k) 6 := vp_in_nI hk (by omega)
  refine ⟨pk_in (k * 16 + m) 96 (by omega) (rb_cell' k m), ?_⟩
  rw [rb_cell', nI_clamp (by omega)]
  refine nm_e ⟨hin, hin, ?_⟩
  rw [nI_clamp (by omega), hmk, nI_1]
  refine nm_e ⟨hin, ?_⟩
  rw [pk_us]
  unfold ds_u at h
  refine pk_eq (m + 1) 16 (fun c => ⟨hin, ?_⟩) (fun c => nm_r (nI_1 i) ?_)
  · rw [if_pos c] at h; exact nm_e (nm_r (nI_1 i) h)
  · rw [if_neg c] at h; exact h
theorem se_x {k m : Nat} (hk : k < 6) (hm : m < 16) : ((nI k + 6) - (nI m - nI m / 6 * 6)) - ((nI k + 6) - (nI m - nI m / 6 * 6)) / 6 * 6 = nI ((k + 6 - m % 6) % 6) := by
  rw [rb_r6 (b := m) (by omega), show (6 : Int32) = nI 6 from rfl, nI_add, pk_sub (by omega)]
  exact rb_r6 (by omega)
theorem se_y {k m : Nat} (hk : k < 6) (hm : m < 16) : ((nI k - (nI m - nI m / 6 * 6)) + 6) - ((nI k - (nI m - nI m / 6 * 6)) + 6) / 6 * 6 = nI ((k + 6 - m % 6) % 6) := by
  have e : (nI k - (nI m - nI m / 6 * 6)) + 6 = (nI k + 6) - (nI m - nI m / 6 * 6) := by
    rw [Int32.sub_eq_add_neg, Int32.sub_eq_add_neg (nI k + 6), Int32.add_assoc, Int32.add_comm _ 6, ← Int32.add_assoc]
  rw [e]
  exact se_x hk hm
theorem rb_l {n d : Nat} (hn : n ≤ 16) : ∀ (e i : Nat) (w s b c : Nat) (ca dn bm : Int32) (ba ds mk wo vt bo us ws wv nt ys yv yz : Nat → Int32), i + e = n → rl_i w d s b c ca ba ds mk bo us ws wv ys yv nt → si_m (fun post => wX_rebuild_25 post (nI n) (e + 1) (nI i) (nI w) (nI d) (nI s) (nI b) ca dn (nI c) bm ba ds mk wo vt bo us ws wv nt) (fun post => wY_rebuild_24 post (nI n) (e + 1) (nI i) (nI d) ca (nI c) bm dn (nI w) (nI b) (nI s) ba ds mk vt bo ys yv nt yz) := by
  intro e
  induction e with
  | zero =>
    intro i w s b c ca dn bm ba ds mk wo vt bo us ws wv nt ys yv yz hi H
    have hi : i = n := by omega
    subst hi
    exact ⟨nI i, _, _, rl_m H, fun post hp => br_t (nI_le (Nat.le_refl i) (by omega)) hp, fun post hp => br_t (nI_le (Nat.le_refl i) (by omega)) hp⟩
  | succ e ih =>
    intro i w s b c ca dn bm ba ds mk wo vt bo us ws wv nt ys yv yz hi H
    have hge : ¬ nI n ≤ nI i := nI_ge (by omega) (by omega)
    obtain ⟨k, hk, hk2, lX, lY⟩ := ln_l (ds := ds) 6 0 (by omega)
    by_cases h6 : k = 6
    · subst h6
      exact ⟨nI i, _, _, rl_m H, fun post hp => br_f hge ⟨7, lX _ (br_f rb_n1le hp)⟩, fun post hp => br_f hge ⟨7, lY _ (br_t (by decide) hp)⟩⟩
    · have hk6 : k < 6 := by omega
      have hby := H.2.2.2.2.2.2.1
      have hdk := H.2.2.2.2.2.2.2.1
      obtain ⟨m, _, hmk, hm⟩ := hdk k hk6
      have hm := hm (hk2 hk6)
      have hin : vp_in (nI k) 6 := vp_in_nI hk6 (by omega)
      have h6y : ¬ (6 : Int32) ≤ nI k := nI_ge (b := 6) hk6 (by decide)
      have hk0 : (0 : Int32) ≤ nI k := nI_pos' (by omega)
      by_cases hlo : lo_v ds mk m = 0
      · obtain ⟨wo', yz', hag, hb6, fX, fY⟩ := fw_r (wc := nI w) (dl := nI d) (ns := nI s) (nb := nI b) (ca := ca) (dn := dn) (sn := nI c) (bm := bm) (wo := wo) (vt := vt) (bo := bo) (us := us) (ws := ws) (wv := wv) (nt := nt) (ys := ys) (yv := yv) (yz := yz) hm hby hlo
        have hse : (k + 6 - m % 6) % 6 < 6 := Nat.mod_lt _ (by decide)
        obtain ⟨r, u', v', R, hX, hY⟩ := ih (i + 1) w s b c ca dn bm (upd ba (k * 16 + m) (wo' ((k + 6 - m % 6) % 6))) (ds_u ds k m) (upd mk k (nI (m + 1))) wo' vt bo us ws wv nt ys yv yz' (by omega) (rl_dk H (ds_k hm hdk) (by_up hby (hb6 _ hse)))
        refine ⟨r, u', v', R, fun post hp => br_f hge ⟨7, lX _ ?_⟩, fun post hp => br_f hge ⟨7, lY _ (br_f h6y ⟨7, lY _ ⟨hin, ?_⟩⟩)⟩⟩
        · rw [if_neg h6]
          refine br_t hk0 ⟨hin, ?_⟩
          rw [nI_clamp (by omega), hmk]
          refine nm_e (xl_r hm (br_t hlo (fX _ ⟨rb_6, rb_6, ?_⟩)))
          rw [se_x hk6 hm]
          refine ⟨vp_in_nI hse (by omega), ?_⟩
          rw [nI_clamp (by omega)]
          exact nm_e (xb_40 hk6 hm (nm_r (nI_1 i) (hX post hp)))
        · rw [nI_clamp (by omega), hmk]
          refine nm_e ⟨rb_6, rb_6, nm_r (se_y hk6 hm) (yl_r hm (br_t hlo (fY _ ⟨vp_in_nI hse (by omega), ?_⟩)))⟩
          rw [nI_clamp (by omega), ← hag _ hse]
          exact nm_e (yb_93 hk6 hm hmk (hY post hp))
      · obtain ⟨r, u', v', R, hX, hY⟩ := ih (i + 1) w s b c ca dn bm (upd ba (k * 16 + m) 0) (ds_u ds k m) (upd mk k (nI (m + 1))) wo vt bo us ws wv nt ys yv yz (by omega) (rl_dk H (ds_k hm hdk) (by_up hby is_b0))
        refine ⟨r, u', v', R, fun post hp => br_f hge ⟨7, lX _ ?_⟩, fun post hp => br_f hge ⟨7, lY _ (br_f h6y ⟨7, lY _ ⟨hin, ?_⟩⟩)⟩⟩
        · rw [if_neg h6]
          refine br_t hk0 ⟨hin, ?_⟩
          rw [nI_clamp (by omega), hmk]
          exact nm_e (xl_r hm (br_f hlo (xb_40 hk6 hm (nm_r (nI_1 i) (hX post hp)))))
        · rw [nI_clamp (by omega), hmk]
          exact nm_e ⟨rb_6, rb_6, nm_r (se_y hk6 hm) (yl_r hm (br_f hlo (yb_93 hk6 hm hmk (hY post hp))))⟩
theorem n1_16 (p0 : Int32) : (p0 < 1) ∨ (¬ p0 < 1 ∧ ¬ p0 ≤ 16 ∧ (16 : Int32) < p0) ∨ ∃ n : Nat, n ≤ 16 ∧ p0 = nI n ∧ ¬ p0 < 1 ∧ p0 ≤ 16 ∧ ¬ (16 : Int32) < p0 := by
  rcases pk_ix p0 (n := 17) (by decide) with h | h | ⟨n, hn, rfl⟩
  · exact Or.inl (Int32.lt_trans h (by decide))
  · have h16 : (16 : Int32) < p0 := Int32.lt_of_lt_of_le (by decide) h
    exact Or.inr (Or.inl ⟨Int32.not_lt.mpr (Int32.le_trans (by decide) h), Int32.not_le.mpr h16, h16⟩)
  · by_cases h0 : n = 0
    · subst h0
      exact Or.inl (by decide)
    · exact Or.inr (Or.inr ⟨n, by omega, rfl, nI_nlt (b := 1) (by omega) (by omega), nI_le (b := 16) (by omega) (by decide), nI_nlt (a := 16) (b := n) (by omega) (by decide)⟩)
theorem si_rebuild {u : SX} {v : SY} (R : rl_s u v) (p0 : Int32) : si_m (fun post => wpX_rebuild post u p0) (fun post => wpY_rebuild post v p0) := by
  obtain ⟨w, d, s, b, c, ca, dn, bm, ba, ds, mk, wo, vt, bo, us, ws, wv, nt, ys, yv, yz, rfl, rfl, H⟩ := R
  by_cases hdn : dn = 0
  · rcases n1_16 p0 with h | ⟨h1, h2, h3⟩ | ⟨n, hn, rfl, h1, h2, h3⟩
    · exact ⟨-1, _, _, rl_m H, fun post hp => br_t hdn (br_t h hp), fun post hp => br_t hdn (br_t h (br_t rfl hp))⟩
    · exact ⟨-1, _, _, rl_m H, fun post hp => br_t hdn (br_f h1 (br_f h2 hp)), fun post hp => br_t hdn (br_f h1 (br_t h3 (br_t rfl hp)))⟩
    · obtain ⟨r, u', v', R, hX, hY⟩ := rb_l (n := n) hn n 0 w s b c ca dn bm ba ds mk wo vt bo us ws wv nt ys yv yz (by omega) H
      exact ⟨r, u', v', R, fun post hp => br_t hdn (br_f h1 (br_t h2 ⟨_, hX post hp⟩)), fun post hp => br_t hdn (br_f h1 (br_f h3 (br_f (by decide) ⟨_, hY post hp⟩)))⟩
  · exact ⟨-4, _, _, rl_m H, fun post hp => br_f hdn hp, fun post hp => br_f hdn hp⟩
/-! scrub -/
theorem cy_0 {s : Nat} : ∀ n : Nat, (∀ k : Nat, k < n → ¬ th_v ds mk ((s + k) % 6) s = 0) → cm_y ds mk s n = 0 := by
  intro n
  induction n with
  | zero => intro _; rfl
  | succ n ih =>
    intro h
    show cm_y ds mk s n + (if th_v ds mk ((s + n) % 6) s = 0 then 1 else 0) = 0
    rw [ih (fun k hk => h k (by omega)), if_neg (h n (by omega))]
theorem cy_1 {s k : Nat} (h : th_v ds mk ((s + k) % 6) s = 0) : ∀ n : Nat, k < n → 1 ≤ cm_y ds mk s n := by
  intro n
  induction n with
  | zero => intro hk; omega
  | succ n ih =>
    intro hk
    show 1 ≤ cm_y ds mk s n + (if th_v ds mk ((s + n) % 6) s = 0 then 1 else 0)
    by_cases c : k = n
    · rw [← c, if_pos h]; omega
    · have := ih (by omega)
      omega
theorem ym_0 {post : Int32 → SY → Prop} {s k : Nat} (hs : s < 16) (h : th_v ds mk ((s + k) % 6) s = 0) (hk : k < 6) (hp : post 0 (dl, ca, sn, bm, dn, wc, nb, ns, ba, ds, mk, vt, bo, ys, yv, nt, yz)) : ∀ e i : Nat, i + e = k → wY_mends_2 post (nI s) dl ca sn bm dn wc nb ns ba ds mk vt bo ys yv nt yz (e + 1) (nI i) := by
  intro e
  induction e with
  | zero =>
    intro i hi
    rw [show i = k by omega]
    exact br_f (nI_ge (b := 6) hk (by decide)) (yh_r hs hk (br_t h hp))
  | succ e ih =>
    intro i hi
    exact br_f (nI_ge (b := 6) (by omega) (by decide)) (yh_r hs (by omega) (br_c (fun _ => hp) (fun _ => nm_r (nI_1 i) (ih (i + 1) (by omega)))))
theorem ym_1 {post : Int32 → SY → Prop} {s : Nat} (hs : s < 16) (h : ∀ k : Nat, k < 6 → ¬ th_v ds mk ((s + k) % 6) s = 0) (hp : wY_mends_2 post (nI s) dl ca sn bm dn wc nb ns ba ds mk vt bo ys yv nt yz 1 (nI 6)) : ∀ e i : Nat, i + e = 6 → wY_mends_2 post (nI s) dl ca sn bm dn wc nb ns ba ds mk vt bo ys yv nt yz (e + 1) (nI i) := by
  intro e
  induction e with
  | zero =>
    intro i hi
    rw [show i = 6 by omega]
    exact hp
  | succ e ih =>
    intro i hi
    exact br_f (nI_ge (b := 6) (by omega) (by decide)) (yh_r hs (by omega) (br_f (h i (by omega)) (nm_r (nI_1 i) (ih (i + 1) (by omega)))))
theorem y9_f {post : Int32 → SY → Prop} {x1 p q x4 : Int32} (h0 : 0 ≤ x4) (hp : wY_mends_121 post x1 p q x4 dl ca sn bm dn wc nb ns ba ds mk vt bo ys yv nt yz) : ∀ e i : Nat, i + e = 4 → wY_mends_90 post x1 p q dl ca sn bm dn wc nb ns ba ds mk vt bo ys yv nt yz (e + 1) x4 (nI i) := by
  intro e
  induction e with
  | zero =>
    intro i hi
    rw [show i = 4 by omega]
    exact br_t (by decide) hp
  | succ e ih =>
    intro i hi
    exact br_f (nI_ge (b := 4) (by omega) (by decide)) (br_t h0 (nm_r (nI_1 i) (ih (i + 1) (by omega))))
theorem wr_l {p q : Int32} : ∀ e i : Nat, i + e = 4 → ∃ x4 : Int32, (x4 = -1 ∨ ∃ j : Nat, j < 6 ∧ x4 = nI j) ∧ (∀ {wc dl ns nb ca dn sn bm : Int32} {ba ds mk wo vt bo us ws wv nt : Nat → Int32} (post : Int32 → Prop), post x4 → wX_wrongSeat_14 post p q wc dl ns nb ca dn sn bm ba ds mk wo vt bo us ws wv nt (e + 1) (nI i)) ∧ (∀ {dl ca sn bm dn wc nb ns : Int32} {ba ds mk vt bo ys yv nt yz : Nat → Int32} (post : Int32 → SY → Prop) (x1 : Int32), wY_mends_121 post x1 p q x4 dl ca sn bm dn wc nb ns ba ds mk vt bo ys yv nt yz → wY_mends_90 post x1 p q dl ca sn bm dn wc nb ns ba ds mk vt bo ys yv nt yz (e + 1) (-1) (nI i)) := by
  intro e
  induction e with
  | zero =>
    intro i hi
    have hi : i = 4 := by omega
    subst hi
    refine ⟨-1, Or.inl rfl, ?_, ?_⟩
    · intros; exact br_t (by decide) (by assumption)
    · intros; exact br_t (by decide) (by assumption)
  | succ e ih =>
    intro i hi
    have h4 : ¬ (4 : Int32) ≤ nI i := nI_ge (b := 4) (by omega) (by decide)
    by_cases z : gf_d i p = q
    · refine ⟨nI i, Or.inr ⟨i, by omega, rfl⟩, ?_, ?_⟩
      · intros; exact br_f h4 (xp_r (by omega) (br_t z (by assumption)))
      · intro dl ca sn bm dn wc nb ns ba ds mk vt bo ys yv nt yz post x1 h
        exact br_f h4 (br_f rb_n1le (yp_r (by omega) (br_t z (nm_r (nI_1 i) (y9_f (nI_pos' (by omega)) h e (i + 1) (by omega))))))
    · obtain ⟨x4, h4', hX, hY⟩ := ih (i + 1) (by omega)
      refine ⟨x4, h4', ?_, ?_⟩
      · intro wc dl ns nb ca dn sn bm ba ds mk wo vt bo us ws wv nt post h
        exact br_f h4 (xp_r (by omega) (br_f z (nm_r (nI_1 i) (hX post h))))
      · intro dl ca sn bm dn wc nb ns ba ds mk vt bo ys yv nt yz post x1 h
        exact br_f h4 (br_f rb_n1le (yp_r (by omega) (br_f z (nm_r (nI_1 i) (hY post x1 h)))))
theorem wr_r (p q : Int32) : ∃ x4 : Int32, (x4 = -1 ∨ ∃ j : Nat, j < 6 ∧ x4 = nI j) ∧ (∀ {wc dl ns nb ca dn sn bm : Int32} {ba ds mk wo vt bo us ws wv nt : Nat → Int32} (post : Int32 → Prop), post x4 → wpX_wrongSeat post (wc, dl, ns, nb, ca, dn, sn, bm, ba, ds, mk, wo, vt, bo, us, ws, wv, nt) p q) ∧ (∀ {dl ca sn bm dn wc nb ns : Int32} {ba ds mk vt bo ys yv nt yz : Nat → Int32} (post : Int32 → SY → Prop) (x1 : Int32), wY_mends_121 post x1 p q x4 dl ca sn bm dn wc nb ns ba ds mk vt bo ys yv nt yz → wY_mends_67 post x1 p q (-1) dl ca sn bm dn wc nb ns ba ds mk vt bo ys yv nt yz) := by
  by_cases hq : q = 0
  · refine ⟨4, Or.inr ⟨4, by decide, rfl⟩, ?_, ?_⟩
    · intros; exact br_t hq (by assumption)
    · intros; exact br_t hq (by assumption)
  · by_cases hp : p = 0
    · refine ⟨5, Or.inr ⟨5, by decide, rfl⟩, ?_, ?_⟩
      · intros; exact br_f hq (br_t hp (by assumption))
      · intros; exact br_f hq (br_t hp (by assumption))
    · obtain ⟨x4, h4, hX, hY⟩ := wr_l (p := p) (q := q) 4 0 (by omega)
      refine ⟨x4, h4, ?_, ?_⟩
      · intro wc dl ns nb ca dn sn bm ba ds mk wo vt bo us ws wv nt post h
        exact br_f hq (br_f hp ⟨5, hX post h⟩)
      · intro dl ca sn bm dn wc nb ns ba ds mk vt bo ys yv nt yz post x1 h
        exact br_f hq (br_f hp ⟨5, hY post x1 h⟩)
/-- a stripe whose sums are wrong -/
theorem me_r {w d s b c t : Nat} {p q : Int32} (ht : t < 16) (hp : is_b p) (hq : is_b q) (H : rl_i w d s b c ca ba ds mk bo us ws wv ys yv nt) : ∃ (r bm' : Int32) (ba' : Nat → Int32), rl_i w d s b c ca ba' ds mk bo us ws wv ys yv nt ∧ (∀ post : Int32 → SX → Prop, post r (nI w, nI d, nI s, nI b, ca, dn, nI c, bm', ba', ds, mk, wo, vt, bo, us, ws, wv, nt) → wX_mendStripe_49 post (nI t) p q (nI w) (nI d) (nI s) (nI b) ca dn (nI c) bm ba ds mk wo vt bo us ws wv nt) ∧ (∀ post : Int32 → SY → Prop, post r (nI d, ca, nI c, bm', dn, nI w, nI b, nI s, ba', ds, mk, vt, bo, ys, yv, nt, yz) → wY_mends_67 post (nI t) p q (-1) (nI d) ca (nI c) bm dn (nI w) (nI b) (nI s) ba ds mk vt bo ys yv nt yz) := by
  have hby := H.2.2.2.2.2.2.1
  have hdk := H.2.2.2.2.2.2.2.1
  unfold wX_mendStripe_49
  obtain ⟨x4, h4, wX, wY⟩ := wr_r p q
  rcases h4 with rfl | ⟨j, hj, rfl⟩
  · exact ⟨0, bm + 1, ba, H, fun post hp => wX _ (br_f rb_n1le (nm_e hp)), fun post hp => wY post _ (br_f rb_n1le (nm_e (br_t rb_n1lt hp)))⟩
  · have hj0 : (0 : Int32) ≤ nI j := nI_pos' (by omega)
    have hjn : ¬ nI j < 0 := nI_pos (by omega)
    have hc : (t + j) % 6 * 16 + t < 96 := by omega
    have hcx : vp_in ((nI ((t + j) % 6) * 16) + nI t) 96 := pk_in _ 96 hc (rb_cell _ _)
    have hcy : vp_in (nI ((t + j) % 6 * 16 + t)) 96 := vp_in_nI hc (by omega)
    by_cases h5 : nI j = 5
    · refine ⟨1, bm, upd ba ((t + j) % 6 * 16 + t) (ba ((t + j) % 6 * 16 + t) ^^^ q), rl_dk H hdk (by_up hby (is_bx (hby _ hc) hq)), fun post hp => wX _ (br_t hj0 ⟨rb_6, nm_r (rb_dk (by omega) (by omega)) ⟨hcx, br_t h5 ⟨hcx, ?_⟩⟩⟩), fun post hp => wY post _ (br_t hj0 (yc_r ht hj ⟨hcy, br_t h5 ⟨hcy, ?_⟩⟩))⟩
      · rw [rb_cell, nI_clamp (by omega)]; exact nm_e hp
      · rw [nI_clamp (by omega)]; exact nm_e (br_f hjn hp)
    · refine ⟨1, bm, upd ba ((t + j) % 6 * 16 + t) (ba ((t + j) % 6 * 16 + t) ^^^ p), rl_dk H hdk (by_up hby (is_bx (hby _ hc) hp)), fun post hp => wX _ (br_t hj0 ⟨rb_6, nm_r (rb_dk (by omega) (by omega)) ⟨hcx, br_f h5 ⟨hcx, ?_⟩⟩⟩), fun post hp => wY post _ (br_t hj0 (yc_r ht hj ⟨hcy, br_f h5 ⟨hcy, ?_⟩⟩))⟩
      · rw [rb_cell, nI_clamp (by omega)]; exact nm_e hp
      · rw [nI_clamp (by omega)]; exact nm_e (br_f hjn hp)
theorem md_r {w d s b c t : Nat} (ht : t < 16) (H : rl_i w d s b c ca ba ds mk bo us ws wv ys yv nt) : ∃ (r bm' : Int32) (ba' wo' yz' : Nat → Int32), rl_i w d s b c ca ba' ds mk bo us ws wv ys yv nt ∧ (∀ post : Int32 → SX → Prop, post r (nI w, nI d, nI s, nI b, ca, dn, nI c, bm', ba', ds, mk, wo', vt, bo, us, ws, wv, nt) → wpX_mendStripe post (nI w, nI d, nI s, nI b, ca, dn, nI c, bm, ba, ds, mk, wo, vt, bo, us, ws, wv, nt) (nI t)) ∧ (∀ post : Int32 → SY → Prop, post r (nI d, ca, nI c, bm', dn, nI w, nI b, nI s, ba', ds, mk, vt, bo, ys, yv, nt, yz') → wpY_mends post (nI d, ca, nI c, bm, dn, nI w, nI b, nI s, ba, ds, mk, vt, bo, ys, yv, nt, yz) (nI t)) := by
  have hby := H.2.2.2.2.2.2.1
  have hcl := cm_le (ds := ds) (mk := mk) (s := t) 6
  unfold wpX_mendStripe
  by_cases hall : ∀ k : Nat, k < 6 → ¬ th_v ds mk ((t + k) % 6) t = 0
  · have h0 : cm_x ds mk t 6 = 0 := by rw [← cm_e]; exact cy_0 6 hall
    have hlo : lo_v ds mk t = 0 := by rw [lo_v, if_pos (by omega)]
    obtain ⟨wo', yz', hag, hb6, fX, fY⟩ := fw_r (wc := nI w) (dl := nI d) (ns := nI s) (nb := nI b) (ca := ca) (dn := dn) (sn := nI c) (bm := bm) (wo := wo) (vt := vt) (bo := bo) (us := us) (ws := ws) (wv := wv) (nt := nt) (ys := ys) (yv := yv) (yz := yz) ht hby hlo
    have e0 : nI (cm_x ds mk t 6) ≤ 0 := by rw [h0]; decide
    have ep : yz' 4 ^^^ sm_D yz' = wo' 4 ^^^ sm_D wo' := by rw [← hag 4 (by decide), ← ag_D hag]
    have eq : yz' 5 ^^^ sm_P yz' = wo' 5 ^^^ sm_P wo' := by rw [← hag 5 (by decide), ← ag_P hag]
    by_cases hz : wo' 4 ^^^ sm_D wo' = 0 ∧ wo' 5 ^^^ sm_P wo' = 0
    · refine ⟨0, bm, ba, wo', yz', H, fun post hp => xm_r ht (br_t e0 (fX _ (xd_r (nm_e (xs_r (nm_e (br_t hz.1 (br_t hz.2 hp)))))))), fun post hp => ⟨7, ym_1 ht hall (br_t (by decide) (fY _ (yd_r (nm_r ep (ys_r (nm_r eq (br_t hz.1 (br_t hz.2 hp)))))))) 6 0 (by omega)⟩⟩
    · obtain ⟨r, bm', ba', R, mX, mY⟩ := me_r (t := t) (p := wo' 4 ^^^ sm_D wo') (q := wo' 5 ^^^ sm_P wo') (dn := dn) (bm := bm) (wo := wo') (vt := vt) (yz := yz') ht (is_bx (hb6 4 (by decide)) (by_D hb6)) (is_bx (hb6 5 (by decide)) (by_P hb6)) H
      refine ⟨r, bm', ba', wo', yz', R, fun post hp => xm_r ht (br_t e0 (fX _ (xd_r (nm_e (xs_r (nm_e (br_c (fun z1 => br_f (fun z2 => hz ⟨z1, z2⟩) (mX post hp)) (fun _ => mX post hp)))))))), fun post hp => ⟨7, ym_1 ht hall (br_t (by decide) (fY _ (yd_r (nm_r ep (ys_r (nm_r eq (br_c (fun z1 => br_f (fun z2 => hz ⟨z1, z2⟩) (mY post hp)) (fun _ => mY post hp)))))))) 6 0 (by omega)⟩⟩
  · obtain ⟨k, hk⟩ := Classical.not_forall.mp hall
    obtain ⟨hk6, hk0⟩ := Classical.not_imp.mp hk
    have hk0 := Classical.not_not.mp hk0
    have h1 := cy_1 hk0 6 hk6
    rw [cm_e] at h1
    exact ⟨0, bm, ba, wo, yz, H, fun post hp => xm_r ht (br_f (nI_nle (by omega) (by omega)) hp), fun post hp => ⟨k + 1, ym_0 ht hk0 hk6 hp k 0 (by omega)⟩⟩
theorem rl_c {w d s b c e : Nat} (he : e < 16) (H : rl_i w d s b c ca ba ds mk bo us ws wv ys yv nt) : rl_i w d s b e ca ba ds mk bo us ws wv ys yv nt := by
  obtain ⟨hwd, hd, hs, hb, hc, hca, hby, hdk, hbo, hus, hwt, hnt⟩ := H
  exact ⟨hwd, hd, hs, hb, he, hca, hby, hdk, hbo, hus, hwt, hnt⟩
theorem cu_r {c : Nat} (hc : c < 16) : (nI c + 1) - (nI c + 1) / 16 * 16 = nI ((c + 1) % 16) := by
  rw [nI_1]; exact rb_r16 (by omega)
theorem sb_l {n d : Nat} (hn : n ≤ 16) : ∀ (e i : Nat) (x2 : Int32) (w s b c : Nat) (ca dn bm : Int32) (ba ds mk wo vt bo us ws wv nt ys yv yz : Nat → Int32), i + e = n → rl_i w d s b c ca ba ds mk bo us ws wv ys yv nt → si_m (fun post => wX_scrub_32 post (nI n) (e + 1) x2 (nI i) (nI w) (nI d) (nI s) (nI b) ca dn (nI c) bm ba ds mk wo vt bo us ws wv nt) (fun post => wY_scrub_31 post (nI n) (e + 1) x2 (nI i) (nI d) ca (nI c) bm dn (nI w) (nI b) (nI s) ba ds mk vt bo ys yv nt yz) := by
  intro e
  induction e with
  | zero =>
    intro i x2 w s b c ca dn bm ba ds mk wo vt bo us ws wv nt ys yv yz hi H
    have hi : i = n := by omega
    subst hi
    exact ⟨x2, _, _, rl_m H, fun post hp => br_t (nI_le (Nat.le_refl i) (by omega)) hp, fun post hp => br_t (nI_le (Nat.le_refl i) (by omega)) hp⟩
  | succ e ih =>
    intro i x2 w s b c ca dn bm ba ds mk wo vt bo us ws wv nt ys yv yz hi H
    have hge : ¬ nI n ≤ nI i := nI_ge (by omega) (by omega)
    have hc := H.2.2.2.2.1
    obtain ⟨r, bm', ba', wo', yz', R, mX, mY⟩ := md_r (t := c) (dn := dn) (bm := bm) (wo := wo) (vt := vt) (yz := yz) hc H
    have R' := rl_c (e := (c + 1) % 16) (by omega) R
    by_cases z : r = 0
    · obtain ⟨r2, u', v', R2, hX, hY⟩ := ih (i + 1) x2 w s b _ ca dn bm' ba' ds mk wo' vt bo us ws wv nt ys yv yz' (by omega) R'
      exact ⟨r2, u', v', R2, fun post hp => br_f hge (mX _ (br_t z ⟨rb_16, nm_r (cu_r hc) (nm_r (nI_1 i) (hX post hp))⟩)), fun post hp => br_f hge (mY _ (br_t z ⟨rb_16, nm_r (cu_r hc) (nm_r (nI_1 i) (hY post hp))⟩))⟩
    · obtain ⟨r2, u', v', R2, hX, hY⟩ := ih (i + 1) (x2 + 1) w s b _ ca dn bm' ba' ds mk wo' vt bo us ws wv nt ys yv yz' (by omega) R'
      exact ⟨r2, u', v', R2, fun post hp => br_f hge (mX _ (br_f z (nm_e ⟨rb_16, nm_r (cu_r hc) (nm_r (nI_1 i) (hX post hp))⟩))), fun post hp => br_f hge (mY _ (br_f z (nm_e ⟨rb_16, nm_r (cu_r hc) (nm_r (nI_1 i) (hY post hp))⟩)))⟩
theorem si_scrub {u : SX} {v : SY} (R : rl_s u v) (p0 : Int32) : si_m (fun post => wpX_scrub post u p0) (fun post => wpY_scrub post v p0) := by
  obtain ⟨w, d, s, b, c, ca, dn, bm, ba, ds, mk, wo, vt, bo, us, ws, wv, nt, ys, yv, yz, rfl, rfl, H⟩ := R
  by_cases hdn : dn = 0
  · rcases n1_16 p0 with h | ⟨h1, h2, h3⟩ | ⟨n, hn, rfl, h1, h2, h3⟩
    · exact ⟨-1, _, _, rl_m H, fun post hp => br_t hdn (br_t h hp), fun post hp => br_t hdn (br_t h (br_t rfl hp))⟩
    · exact ⟨-1, _, _, rl_m H, fun post hp => br_t hdn (br_f h1 (br_f h2 hp)), fun post hp => br_t hdn (br_f h1 (br_t h3 (br_t rfl hp)))⟩
    · obtain ⟨r, u', v', R, hX, hY⟩ := sb_l (n := n) hn n 0 0 w s b c ca dn 0 ba ds mk wo vt bo us ws wv nt ys yv yz (by omega) H
      exact ⟨r, u', v', R, fun post hp => br_t hdn (br_f h1 (br_t h2 ⟨_, hX post hp⟩)), fun post hp => br_t hdn (br_f h1 (br_f h3 (br_f (by decide) ⟨_, hY post hp⟩)))⟩
  · exact ⟨-4, _, _, rl_m H, fun post hp => br_f hdn hp, fun post hp => br_f hdn hp⟩
end
end
section
section
variable {wc dl ns nb ca dn sn bm : Int32} {ba ds mk wo vt bo us ws wv nt ys yv yz : Nat → Int32}
/-! state -/
theorem sh_2 {post : Int32 → Prop} (hp : post (nI (cn_b bo 2 120 64))) : ∀ e i : Nat, i + e = 64 → wY_state_55 post dl ca sn bm dn wc nb ns ba ds mk vt bo ys yv nt yz (e + 1) (nI (cn_b bo 2 120 i)) (nI i) := by
  intro e
  induction e with
  | zero =>
    intro i hi'
    rw [show i = 64 by omega]
    exact br_t (by decide) hp
  | succ e ih =>
    intro i hi'
    have ih := ih (i + 1) (by omega)
    have hle := ct_le (bo := bo) (nI i) 120
    have e1 : cn_b bo 2 120 (i + 1) = cn_b bo 2 120 i + if 2 ≤ ct_n bo (nI i) 120 ∧ ct_n bo (nI i) 120 ≤ 120 then 1 else 0 := rfl
    rw [e1] at ih
    refine br_f (nI_ge (b := 64) (by omega) (by decide)) (yu_r (pk_le _ 1 (fun z => nm_r (nI_1 i) ?_) (fun z => nm_r (nI_1 _) (nm_r (nI_1 i) ?_))))
    · rw [if_neg (by omega)] at ih; exact ih
    · rw [if_pos (by omega)] at ih; exact ih
def cv_n (vt : Nat → Int32) : Nat → Nat
  | 0 => 0
  | n + 1 => cv_n vt n + if vt n = 0 then 0 else 1
theorem cv_x {post : Int32 → Prop} (hp : post (nI (cv_n vt 6))) : ∀ e i : Nat, i + e = 6 → wX_countVolumes_4 post wc dl ns nb ca dn sn bm ba ds mk wo vt bo us ws wv nt (e + 1) (nI (cv_n vt i)) (nI i) := by
  intro e
  induction e with
  | zero =>
    intro i hi'
    rw [show i = 6 by omega]
    exact br_t (by decide) hp
  | succ e ih =>
    intro i hi'
    have ih := ih (i + 1) (by omega)
    have e1 : cv_n vt (i + 1) = cv_n vt i + if vt i = 0 then 0 else 1 := rfl
    rw [e1] at ih
    refine br_f (nI_ge (b := 6) (by omega) (by decide)) ⟨vp_in_nI (by omega) (by omega), ?_⟩
    rw [nI_clamp (by omega)]
    refine br_c (fun z => nm_r (nI_1 i) ?_) (fun z => nm_r (nI_1 _) (nm_r (nI_1 i) ?_))
    · rw [if_pos z] at ih; exact ih
    · rw [if_neg z] at ih; exact ih
theorem cv_y {post : Int32 → Prop} (hp : post (nI (cv_n vt 6))) : ∀ e i : Nat, i + e = 6 → wY_state_83 post dl ca sn bm dn wc nb ns ba ds mk vt bo ys yv nt yz (e + 1) (nI (cv_n vt i)) (nI i) := by
  intro e
  induction e with
  | zero =>
    intro i hi'
    rw [show i = 6 by omega]
    exact br_t (by decide) hp
  | succ e ih =>
    intro i hi'
    have ih := ih (i + 1) (by omega)
    have e1 : cv_n vt (i + 1) = cv_n vt i + if vt i = 0 then 0 else 1 := rfl
    rw [e1] at ih
    refine br_f (nI_ge (b := 6) (by omega) (by decide)) ⟨vp_in_nI (by omega) (by omega), ?_⟩
    rw [nI_clamp (by omega)]
    refine br_c (fun z => nm_r (nI_1 i) ?_) (fun z => nm_r (nI_1 _) (nm_r (nI_1 i) ?_))
    · rw [if_pos z] at ih; exact ih
    · rw [if_neg z] at ih; exact ih
def cl_n (ds mk : Nat → Int32) : Nat → Nat
  | 0 => 0
  | n + 1 => cl_n ds mk n + if lo_v ds mk n = 0 then 0 else 1
theorem cl_x {post : Int32 → Prop} (hp : post (nI (cl_n ds mk 16))) : ∀ e i : Nat, i + e = 16 → wX_countLostStripes_4 post wc dl ns nb ca dn sn bm ba ds mk wo vt bo us ws wv nt (e + 1) (nI (cl_n ds mk i)) (nI i) := by
  intro e
  induction e with
  | zero =>
    intro i hi'
    rw [show i = 16 by omega]
    exact br_t (by decide) hp
  | succ e ih =>
    intro i hi'
    have ih := ih (i + 1) (by omega)
    have e1 : cl_n ds mk (i + 1) = cl_n ds mk i + if lo_v ds mk i = 0 then 0 else 1 := rfl
    rw [e1] at ih
    refine br_f (nI_ge (b := 16) (by omega) (by decide)) (xl_r (by omega) (br_c (fun z => nm_r (nI_1 i) ?_) (fun z => nm_r (nI_1 _) (nm_r (nI_1 i) ?_))))
    · rw [if_pos z] at ih; exact ih
    · rw [if_neg z] at ih; exact ih
theorem cl_y {post : Int32 → Prop} (hp : post (nI (cl_n ds mk 16))) : ∀ e i : Nat, i + e = 16 → wY_state_111 post dl ca sn bm dn wc nb ns ba ds mk vt bo ys yv nt yz (e + 1) (nI (cl_n ds mk i)) (nI i) := by
  intro e
  induction e with
  | zero =>
    intro i hi'
    rw [show i = 16 by omega]
    exact br_t (by decide) hp
  | succ e ih =>
    intro i hi'
    have ih := ih (i + 1) (by omega)
    have e1 : cl_n ds mk (i + 1) = cl_n ds mk i + if lo_v ds mk i = 0 then 0 else 1 := rfl
    rw [e1] at ih
    refine br_f (nI_ge (b := 16) (by omega) (by decide)) (yl_r (by omega) (br_c (fun z => nm_r (nI_1 i) ?_) (fun z => nm_r (nI_1 _) (nm_r (nI_1 i) ?_))))
    · rw [if_pos z] at ih; exact ih
    · rw [if_neg z] at ih; exact ih
/-- what is below 8 and not below 0: X comes to its switch, Y too -/
theorem so_state {u : SX} {v : SY} (R : rl_s u v) (p0 : Int32) : si_o (fun post => wpX_state post u p0) (fun post => wpY_state post v p0) := by
  obtain ⟨w, d, s, b, c, ca, dn, bm, ba, ds, mk, wo, vt, bo, us, ws, wv, nt, ys, yv, yz, rfl, rfl, H⟩ := R
  have hus := H.2.2.2.2.2.2.2.2.2.1
  rcases pk_ix p0 (n := 22) (by decide) with h | h | ⟨n, hn, rfl⟩
  · have h8 : p0 < 8 := Int32.lt_trans h (by decide)
    have h16 : p0 < 16 := Int32.lt_trans h (by decide)
    exact ⟨-1, fun post hp => br_t h8 (br_t h16 (br_t h hp)), fun post hp => br_t h (br_t h8 (br_t rfl (br_t h16 (br_t rfl hp))))⟩
  · have h0 := ge_0 22 (by decide) h
    have h8 : ¬ p0 < 8 := Int32.not_lt.mpr (Int32.le_trans (by decide) h)
    have h14 : (14 : Int32) ≤ p0 := Int32.le_trans (by decide) h
    have h16 : ¬ p0 < 16 := Int32.not_lt.mpr (Int32.le_trans (by decide) h)
    have h7 : (7 : Int32) < p0 := Int32.lt_of_lt_of_le (by decide) h
    have h13 : (13 : Int32) < p0 := Int32.lt_of_lt_of_le (by decide) h
    have h21 : (21 : Int32) < p0 := Int32.lt_of_lt_of_le (by decide) h
    exact ⟨-1, fun post hp => br_f h8 (br_t h14 (br_f h16 (br_t h (br_f h0 (br_t h7 hp))))), fun post hp => br_f h0 (br_t h7 (br_f h8 (br_t h13 (br_t rfl (br_f h16 (br_t h21 (br_t rfl hp)))))))⟩
  · have h0 : ¬ nI n < 0 := nI_pos (by omega)
    by_cases c8 : n < 8
    · have h8 : nI n < (8 : Int32) := nI_lt (b := 8) c8 (by decide)
      have h16 : nI n < (16 : Int32) := nI_lt (b := 16) (by omega) (by decide)
      have h7 : ¬ (7 : Int32) < nI n := nI_nlt (a := 7) (b := n) (by omega) (by decide)
      match n, c8 with
      | 0, _ => exact ⟨nI (cn_b bo 0 0 64), fun post hp => br_t h8 (br_t h16 (br_f h0 (br_f h7 (br_t rfl (cb_r (lo := 0) (hi := 0) hus (by decide) (by decide) hp))))), fun post hp => br_f h0 (br_f h7 (br_t rfl (fr_r hp)))⟩
      | 1, _ => exact ⟨nI (cn_b bo 2 120 64), fun post hp => br_t h8 (br_t h16 (br_f h0 (br_f h7 (br_f (by decide) (br_t rfl (cb_r (lo := 2) (hi := 120) hus (by decide) (by decide) hp)))))), fun post hp => br_f h0 (br_f h7 (br_f (by decide) (br_t rfl ⟨65, sh_2 hp 64 0 (by omega)⟩)))⟩
      | 2, _ => exact ⟨nI (cv_n vt 6), fun post hp => br_t h8 (br_t h16 (br_f h0 (br_f h7 (br_f (by decide) (br_f (by decide) (br_t rfl ⟨7, cv_x hp 6 0 (by omega)⟩)))))), fun post hp => br_f h0 (br_f h7 (br_f (by decide) (br_f (by decide) (br_t rfl ⟨7, cv_y hp 6 0 (by omega)⟩))))⟩
      | 3, _ => exact ⟨nI (cl_n ds mk 16), fun post hp => br_t h8 (br_t h16 (br_f h0 (br_f h7 (br_f (by decide) (br_f (by decide) (br_f (by decide) (br_t rfl ⟨17, cl_x hp 16 0 (by omega)⟩))))))), fun post hp => br_f h0 (br_f h7 (br_f (by decide) (br_f (by decide) (br_f (by decide) (br_t rfl ⟨17, cl_y hp 16 0 (by omega)⟩)))))⟩
      | 4, _ => exact ⟨bm, fun post hp => br_t h8 (br_t h16 (br_f h0 (br_f h7 (br_f (by decide) (br_f (by decide) (br_f (by decide) (br_f (by decide) (br_t rfl hp)))))))), fun post hp => br_f h0 (br_f h7 (br_f (by decide) (br_f (by decide) (br_f (by decide) (br_f (by decide) (br_t rfl hp))))))⟩
      | 5, _ => exact ⟨nI c, fun post hp => br_t h8 (br_t h16 (br_f h0 (br_f h7 (br_f (by decide) (br_f (by decide) (br_f (by decide) (br_f (by decide) (br_f (by decide) (br_t rfl hp))))))))), fun post hp => br_f h0 (br_f h7 (br_f (by decide) (br_f (by decide) (br_f (by decide) (br_f (by decide) (br_f (by decide) (br_t rfl hp)))))))⟩
      | 6, _ =>
        by_cases hdn : dn = 0
        · exact ⟨0, fun post hp => br_t h8 (br_t h16 (br_f h0 (br_f h7 (br_f (by decide) (br_f (by decide) (br_f (by decide) (br_f (by decide) (br_f (by decide) (br_f (by decide) (br_t rfl (br_t hdn hp))))))))))), fun post hp => br_f h0 (br_f h7 (br_f (by decide) (br_f (by decide) (br_f (by decide) (br_f (by decide) (br_f (by decide) (br_f (by decide) (br_t rfl (br_t hdn hp)))))))))⟩
        · exact ⟨1, fun post hp => br_t h8 (br_t h16 (br_f h0 (br_f h7 (br_f (by decide) (br_f (by decide) (br_f (by decide) (br_f (by decide) (br_f (by decide) (br_f (by decide) (br_t rfl (br_f hdn hp))))))))))), fun post hp => br_f h0 (br_f h7 (br_f (by decide) (br_f (by decide) (br_f (by decide) (br_f (by decide) (br_f (by decide) (br_f (by decide) (br_t rfl (br_f hdn hp)))))))))⟩
      | 7, _ => exact ⟨nI w, fun post hp => br_t h8 (br_t h16 (br_f h0 (br_f h7 (br_f (by decide) (br_f (by decide) (br_f (by decide) (br_f (by decide) (br_f (by decide) (br_f (by decide) (br_f (by decide) (br_t rfl hp))))))))))), fun post hp => br_f h0 (br_f h7 (br_f (by decide) (br_f (by decide) (br_f (by decide) (br_f (by decide) (br_f (by decide) (br_f (by decide) (br_f (by decide) (br_t rfl hp)))))))))⟩
    · have h8 : ¬ nI n < (8 : Int32) := nI_nlt (b := 8) (by omega) (by omega)
      have h7 : (7 : Int32) < nI n := nI_lt (a := 7) (b := n) (by omega) (by omega)
      by_cases c14 : n < 14
      · have h14 : ¬ (14 : Int32) ≤ nI n := nI_ge (b := 14) c14 (by decide)
        have h13 : ¬ (13 : Int32) < nI n := nI_nlt (a := 13) (b := n) (by omega) (by decide)
        have e8 : nI n - 8 = nI (n - 8) := pk_sub (b := 8) (by omega)
        have hin : vp_in (nI n - 8) 6 := by rw [e8]; exact vp_in_nI (by omega) (by omega)
        exact ⟨ds (nI n - 8).toNatClampNeg, fun post hp => br_f h8 (br_f h14 ⟨hin, hp⟩), fun post hp => br_f h0 (br_t h7 (br_f h8 (br_f h13 (br_f (by decide) ⟨hin, hp⟩))))⟩
      · have h14 : (14 : Int32) ≤ nI n := nI_le (a := 14) (b := n) (by omega) (by omega)
        have h13 : (13 : Int32) < nI n := nI_lt (a := 13) (b := n) (by omega) (by omega)
        by_cases c16 : n < 16
        · have h16 : nI n < (16 : Int32) := nI_lt (b := 16) c16 (by decide)
          exact ⟨-1, fun post hp => br_f h8 (br_t h14 (br_t h16 (br_f h0 (br_t h7 hp)))), fun post hp => br_f h0 (br_t h7 (br_f h8 (br_t h13 (br_t rfl (br_t h16 (br_t rfl hp))))))⟩
        · have h16 : ¬ nI n < (16 : Int32) := nI_nlt (b := 16) (by omega) (by omega)
          have h22 : ¬ (22 : Int32) ≤ nI n := nI_ge (b := 22) hn (by decide)
          have h21 : ¬ (21 : Int32) < nI n := nI_nlt (a := 21) (b := n) (by omega) (by decide)
          have e16 : nI n - 16 = nI (n - 16) := pk_sub (b := 16) (by omega)
          have hin : vp_in (nI n - 16) 6 := by rw [e16]; exact vp_in_nI (by omega) (by omega)
          by_cases z : ds (nI n - 16).toNatClampNeg = 2
          · exact ⟨mk (nI n - 16).toNatClampNeg, fun post hp => br_f h8 (br_t h14 (br_f h16 (br_f h22 ⟨hin, br_t z ⟨hin, hp⟩⟩))), fun post hp => br_f h0 (br_t h7 (br_f h8 (br_t h13 (br_t rfl (br_f h16 (br_f h21 (br_f (by decide) ⟨hin, br_t z ⟨hin, hp⟩⟩)))))))⟩
          · exact ⟨-1, fun post hp => br_f h8 (br_t h14 (br_f h16 (br_f h22 ⟨hin, br_f z hp⟩))), fun post hp => br_f h0 (br_t h7 (br_f h8 (br_t h13 (br_t rfl (br_f h16 (br_f h21 (br_f (by decide) ⟨hin, br_f z hp⟩)))))))⟩
/-! the constructors -/
def nb_f (i : Nat) : Nat → Int32 := fun j => if j < i then -1 else 0
theorem nb_0 : nb_f 0 = fun _ => 0 := by
  funext j
  unfold nb_f
  rw [if_neg (by omega)]
theorem nb_s (i : Nat) : upd (nb_f i) i (-1) = nb_f (i + 1) := by
  funext j
  unfold nb_f upd
  by_cases c : j = i
  · rw [if_pos c, if_pos (by omega)]
  · rw [if_neg c]
    dsimp only
    by_cases e : j < i
    · rw [if_pos e, if_pos (by omega)]
    · rw [if_neg e, if_neg (by omega)]
theorem in_x {post : SX → Prop} (h : post (wc, dl, ns, nb, ca, dn, sn, bm, ba, ds, mk, wo, vt, nb_f 120, us, ws, wv, nt)) : ∀ e i : Nat, i + e = 120 → wX_init_132 post wc dl ns nb ca dn sn bm (e + 1) (nI i) ba ds mk wo vt (nb_f i) us ws wv nt := by
  intro e
  induction e with
  | zero =>
    intro i hi
    rw [show i = 120 by omega]
    exact br_t (by decide) h
  | succ e ih =>
    intro i hi
    refine br_f (nI_ge (b := 120) (by omega) (by decide)) ⟨vp_in_nI (by omega) (by omega), ?_⟩
    rw [nI_clamp (by omega), nb_s]
    exact nm_e (nm_r (nI_1 i) (ih (i + 1) (by omega)))
theorem in_y {post : SY → Prop} (h : post (dl, ca, sn, bm, dn, wc, nb, ns, ba, ds, mk, vt, nb_f 120, ys, yv, nt, yz)) : ∀ e i : Nat, i + e = 120 → wY_init_89 post dl ca sn bm dn wc nb ns (e + 1) (nI i) ba ds mk vt (nb_f i) ys yv nt yz := by
  intro e
  induction e with
  | zero =>
    intro i hi
    rw [show i = 120 by omega]
    exact br_t (by decide) h
  | succ e ih =>
    intro i hi
    refine br_f (nI_ge (b := 120) (by omega) (by decide)) ⟨vp_in_nI (by omega) (by omega), ?_⟩
    rw [nI_clamp (by omega), nb_s]
    exact nm_e (nm_r (nI_1 i) (ih (i + 1) (by omega)))
theorem ct_0 {b : Nat} (hb : b < 64) : ∀ n : Nat, n ≤ 120 → ct_n (nb_f 120) (nI b) n = 0 := by
  intro n
  induction n with
  | zero => intro _; rfl
  | succ n ih =>
    intro h
    show ct_n (nb_f 120) (nI b) n + (if nb_f 120 n = nI b then 1 else 0) = 0
    have e : nb_f 120 n = -1 := if_pos (by omega)
    rw [ih (by omega), e, if_neg (nb_n hb)]
theorem rl_0 : rl_i 0 0 0 0 0 (-1) (fun _ => 0) (fun _ => 0) (fun _ => 0) (nb_f 120) (fun _ => 0) (fun _ => 0) (fun _ => 0) (fun _ => 0) (fun _ => 0) (fun _ => 0) := by
  refine ⟨by decide, by decide, by decide, by decide, by decide, Or.inl rfl, fun _ _ => is_b0, fun j _ => ⟨0, by decide, rfl, fun z => absurd z (by decide : ¬ (0 : Int32) = 2)⟩, fun j hj => Or.inl (if_pos hj), fun b hb => ?_, ⟨fun i hi => absurd hi (by omega), fun i j _ hj => absurd hj (by omega)⟩, fun _ _ => is_b0⟩
  rw [ct_0 hb 120 (by decide)]
  rfl
theorem rl_n : wpX_init (fun u => wpY_init (fun v => rl_s u v)) := by
  refine nm_e ⟨121, ?_⟩
  have hx := in_x (post := fun u => wpY_init (fun v => rl_s u v)) (wc := 0) (dl := 0) (ns := 0) (nb := 0) (ca := -1) (dn := 0) (sn := 0) (bm := 0) (ba := fun _ => 0) (ds := fun _ => 0) (mk := fun _ => 0) (wo := fun _ => 0) (vt := upd (fun _ => 0) 0 (vp_nar .boolean 1)) (us := fun _ => 0) (ws := fun _ => 0) (wv := fun _ => 0) (nt := fun _ => 0) ?_ 120 0 (by omega)
  · rw [nb_0] at hx
    exact hx
  · refine nm_e ⟨121, ?_⟩
    have hy := in_y (post := fun v => rl_s (0, 0, 0, 0, -1, 0, 0, 0, (fun _ => 0), (fun _ => 0), (fun _ => 0), (fun _ => 0), upd (fun _ => 0) 0 (vp_nar .boolean 1), nb_f 120, (fun _ => 0), (fun _ => 0), (fun _ => 0), (fun _ => 0)) v) (wc := 0) (dl := 0) (ns := 0) (nb := 0) (ca := -1) (dn := 0) (sn := 0) (bm := 0) (ba := fun _ => 0) (ds := fun _ => 0) (mk := fun _ => 0) (vt := upd (fun _ => 0) 0 (vp_nar .boolean 1)) (ys := fun _ => 0) (yv := fun _ => 0) (nt := fun _ => 0) (yz := fun _ => 0) ?_ 120 0 (by omega)
    · rw [nb_0] at hy
      exact hy
    · exact rl_m (w := 0) (d := 0) (s := 0) (b := 0) (c := 0) rl_0
end
end
section
section
/-- the relation: near equality; the component's counts are the reference's; those that wait are alike as far as they count -/
def i_Rel (_ : Nat) (u : SX) (v : SY) : Prop := rl_s u v
theorem i_up {k : Nat} {u : SX} {v : SY} (h : i_Rel k u v) : i_Rel (k + 4) u v := h
theorem i_vc0 : wpX_init (fun u => wpY_init (fun v => i_Rel 0 u v)) := rl_n
theorem i_vc_write {k : Nat} {u : SX} {v : SY} (I : i_Rel k u v) (hk : k + 4 ≤ 2048) (v1 : Int32) (v2 : Int32) (v3 : Int32) : wpX_write (fun r u' => wpY_write (fun r' v' => r' = r ∧ i_Rel (k + 4) u' v') v v1 v2 v3) u v1 v2 v3 := si_e (si_write I v1 v2 v3)
theorem i_vc_delay {k : Nat} {u : SX} {v : SY} (I : i_Rel k u v) (hk : k + 4 ≤ 2048) (v1 : Int32) : wpX_delay (fun r u' => wpY_delay (fun r' v' => r' = r ∧ i_Rel (k + 4) u' v') v v1) u v1 := si_e (si_delay I v1)
theorem i_vc_flush {k : Nat} {u : SX} {v : SY} (I : i_Rel k u v) (hk : k + 4 ≤ 2048) (v1 : Int32) : wpX_flush (fun r u' => wpY_flush (fun r' v' => r' = r ∧ i_Rel (k + 4) u' v') v v1) u v1 := si_e (si_flush I v1)
theorem i_vc_read {k : Nat} {u : SX} {v : SY} (I : i_Rel k u v) (hk : k + 4 ≤ 2048) (v1 : Int32) (v2 : Int32) : wpX_read (fun r u' => wpY_read (fun r' v' => r' = r ∧ i_Rel (k + 4) u' v') v v1 v2) u v1 v2 := si_e (si_read I v1 v2)
theorem i_vc_trim {k : Nat} {u : SX} {v : SY} (I : i_Rel k u v) (hk : k + 4 ≤ 2048) (v1 : Int32) (v2 : Int32) : wpX_trim (fun r u' => wpY_trim (fun r' v' => r' = r ∧ i_Rel (k + 4) u' v') v v1 v2) u v1 v2 := si_e (si_trim I v1 v2)
theorem i_vc_snapshot {k : Nat} {u : SX} {v : SY} (I : i_Rel k u v) (hk : k + 4 ≤ 2048) (v1 : Int32) : wpX_snapshot (fun r u' => wpY_snapshot (fun r' v' => r' = r ∧ i_Rel (k + 4) u' v') v v1) u v1 := si_e (si_snapshot I v1)
theorem i_vc_drop {k : Nat} {u : SX} {v : SY} (I : i_Rel k u v) (hk : k + 4 ≤ 2048) (v1 : Int32) : wpX_drop (fun r u' => wpY_drop (fun r' v' => r' = r ∧ i_Rel (k + 4) u' v') v v1) u v1 := si_e (si_drop I v1)
theorem i_vc_change {k : Nat} {u : SX} {v : SY} (I : i_Rel k u v) (hk : k + 4 ≤ 2048) (v1 : Int32) (v2 : Int32) : wpX_change (fun r u' => wpY_change (fun r' v' => r' = r ∧ i_Rel (k + 4) u' v') v v1 (lw_bz v2)) u v1 (lw_bz v2) := si_e (si_change I v1 (lw_bz v2))
theorem i_vc_rebuild {k : Nat} {u : SX} {v : SY} (I : i_Rel k u v) (hk : k + 4 ≤ 2048) (v1 : Int32) : wpX_rebuild (fun r u' => wpY_rebuild (fun r' v' => r' = r ∧ i_Rel (k + 4) u' v') v v1) u v1 := si_e (si_rebuild I v1)
theorem i_vc_spoil {k : Nat} {u : SX} {v : SY} (I : i_Rel k u v) (hk : k + 4 ≤ 2048) (v1 : Int32) (v2 : Int32) (v3 : Int32) : wpX_spoil (fun r u' => wpY_spoil (fun r' v' => r' = r ∧ i_Rel (k + 4) u' v') v v1 v2 v3) u v1 v2 v3 := si_e (si_spoil I v1 v2 v3)
theorem i_vc_scrub {k : Nat} {u : SX} {v : SY} (I : i_Rel k u v) (hk : k + 4 ≤ 2048) (v1 : Int32) : wpX_scrub (fun r u' => wpY_scrub (fun r' v' => r' = r ∧ i_Rel (k + 4) u' v') v v1) u v1 := si_e (si_scrub I v1)
theorem i_vc_crash {k : Nat} {u : SX} {v : SY} (I : i_Rel k u v) (hk : k + 4 ≤ 2048) (v1 : Int32) : wpX_crash (fun r u' => wpY_crash (fun r' v' => r' = r ∧ i_Rel (k + 4) u' v') v v1) u v1 := si_e (si_crash I v1)
theorem i_vc_recover {k : Nat} {u : SX} {v : SY} (I : i_Rel k u v) (hk : k + 4 ≤ 2048) : wpX_recover (fun r u' => wpY_recover (fun r' v' => r' = r ∧ i_Rel (k + 4) u' v') v) u := si_e (si_recover I)
theorem i_vc_raw {k : Nat} {u : SX} {v : SY} (I : i_Rel k u v) (hk : k + 4 ≤ 2048) (v1 : Int32) (v2 : Int32) : wpX_raw (fun r => wpY_raw (fun r' => r' = r ∧ i_Rel (k + 4) u v) v v1 v2) u v1 v2 := by
  obtain ⟨r, hX, hY⟩ := so_raw I v1 v2
  exact hX _ (hY _ ⟨rfl, I⟩)
theorem i_vc_place {k : Nat} {u : SX} {v : SY} (I : i_Rel k u v) (hk : k + 4 ≤ 2048) (v1 : Int32) (v2 : Int32) : wpX_place (fun r => wpY_place (fun r' => r' = r ∧ i_Rel (k + 4) u v) v v1 v2) u v1 v2 := by
  obtain ⟨r, hX, hY⟩ := so_place I v1 v2
  exact hX _ (hY _ ⟨rfl, I⟩)
theorem i_vc_state {k : Nat} {u : SX} {v : SY} (I : i_Rel k u v) (hk : k + 4 ≤ 2048) (v1 : Int32) : wpX_state (fun r => wpY_state (fun r' => r' = r ∧ i_Rel (k + 4) u v) v v1) u v1 := by
  obtain ⟨r, hX, hY⟩ := so_state I v1
  exact hX _ (hY _ ⟨rfl, I⟩)
end
end
