section
section
theorem pk_us {f : Nat → Int32} {k : Nat} {x : Int32} : upd f k x k = x := if_pos rfl
theorem pk_un {f : Nat → Int32} {k j : Nat} {x : Int32} (h : j ≠ k) : upd f k x j = f j := if_neg h
theorem pk_sub {a b : Nat} (h : b ≤ a) : nI a - nI b = nI (a - b) := by
  obtain ⟨c, rfl⟩ : ∃ c, a = c + b := ⟨a - b, by omega⟩
  rw [← nI_add, Int32.add_sub_cancel, Nat.add_sub_cancel]
theorem pk_m1 (n : Nat) : nI (n + 1) + (-1) = nI n := by
  rw [← nI_1, Int32.add_assoc, show (1 : Int32) + (-1) = 0 from rfl, Int32.add_zero]
theorem pk_mul (a b : Nat) : nI a * nI b = nI (a * b) := (Int32.ofNat_mul a b).symm
theorem pk_div {a d : Nat} (ha : a < 2 ^ 31) (h0 : 0 < d) (hd : d < 2 ^ 31) : nI a / nI d = nI (a / d) := by
  apply Int32.toInt_inj.mp
  rw [lg_idiv_nonneg (by rw [nI_toInt ha]; omega) (by rw [nI_toInt hd]; omega), nI_toInt ha, nI_toInt hd, nI_toInt (Nat.lt_of_le_of_lt (Nat.div_le_self a d) ha)]
  first | rfl | exact (Int.natCast_ediv _ _).symm
theorem pk_rem {a d : Nat} (ha : a < 2 ^ 31) (h0 : 0 < d) (hd : d < 2 ^ 31) : nI a - nI a / nI d * nI d = nI (a % d) := by
  rw [pk_div ha h0 hd, pk_mul, pk_sub (Nat.div_mul_le_self a d)]
  exact congrArg nI (by have := Nat.div_add_mod' a d; omega)
theorem pk_ix (x : Int32) {n : Nat} (hn : n < 2 ^ 31) : x < 0 ∨ nI n ≤ x ∨ ∃ j : Nat, j < n ∧ x = nI j := by
  by_cases h : x < 0
  · exact Or.inl h
  · obtain ⟨j, hj, rfl⟩ := nI_of h
    by_cases h2 : j < n
    · exact Or.inr (Or.inr ⟨j, h2, rfl⟩)
    · exact Or.inr (Or.inl (nI_le (by omega) hj))
theorem pk_le {x y : Int32} {A B : Prop} (a b : Nat) (f : a ≤ b → A) (g : b < a → B) (hx : x = nI a := by rfl) (hy : y = nI b := by rfl) (ha : a < 2 ^ 31 := by omega) (hb : b < 2 ^ 31 := by omega) : (x ≤ y → A) ∧ (¬ x ≤ y → B) := by
  subst hx hy
  rw [nI_leI ha hb]
  exact ⟨f, fun z => g (by omega)⟩
theorem pk_lt {x y : Int32} {A B : Prop} (a b : Nat) (f : a < b → A) (g : b ≤ a → B) (hx : x = nI a := by rfl) (hy : y = nI b := by rfl) (ha : a < 2 ^ 31 := by omega) (hb : b < 2 ^ 31 := by omega) : (x < y → A) ∧ (¬ x < y → B) := by
  subst hx hy
  rw [nI_ltI ha hb]
  exact ⟨f, fun z => g (by omega)⟩
theorem pk_eq {x y : Int32} {A B : Prop} (a b : Nat) (f : a = b → A) (g : a ≠ b → B) (hx : x = nI a := by rfl) (hy : y = nI b := by rfl) (ha : a < 2 ^ 31 := by omega) (hb : b < 2 ^ 31 := by omega) : (x = y → A) ∧ (¬ x = y → B) := by
  subst hx hy
  rw [nI_eq ha hb]
  exact ⟨f, g⟩
theorem pk_in {x : Int32} (n N : Nat) (h : n < N) (hx : x = nI n := by rfl) (hN : N < 2 ^ 31 := by omega) : vp_in x N := by
  subst hx
  exact vp_in_nI h hN
theorem pk_cl {x : Int32} (n : Nat) (hx : x = nI n := by rfl) (h : n < 2 ^ 31 := by omega) : x.toNatClampNeg = n := by
  subst hx
  exact nI_clamp h
theorem pk_tn {n : Nat} (h : n < 2 ^ 32) : (nI n).toBitVec.toNat = n := Nat.mod_eq_of_lt h
theorem pk_and (x : Int32) {m : Int32} (k : Nat) (hm : m.toBitVec.toNat = 2 ^ k - 1) : x &&& m = nI (x.toBitVec.toNat % 2 ^ k) := by
  apply Int32.toBitVec_inj.mp
  apply BitVec.eq_of_toNat_eq
  rw [Int32.toBitVec_and, BitVec.toNat_and, hm, Nat.and_two_pow_sub_one_eq_mod]
  show _ = (BitVec.ofNat 32 _).toNat
  rw [BitVec.toNat_ofNat]
  exact (Nat.mod_eq_of_lt (Nat.lt_of_le_of_lt (Nat.mod_le _ _) x.toBitVec.isLt)).symm
theorem pk_andE (x : Int32) {m : Int32} (k : Nat) (hm : m.toBitVec.toNat = 2 ^ k - 1) : ∃ j : Nat, j < 2 ^ k ∧ x &&& m = nI j := ⟨_, Nat.mod_lt _ (Nat.two_pow_pos k), pk_and x k hm⟩
theorem pk_shl (a s : Int32) (k : Nat) (hs : (s.toBitVec.smod 32).toNat = k) : (a <<< s).toBitVec.toNat = a.toBitVec.toNat * 2 ^ k % 2 ^ 32 := by
  show (a.toBitVec <<< (s.toBitVec.smod 32).toNat).toNat = _
  rw [hs, BitVec.toNat_shiftLeft, Nat.shiftLeft_eq]
theorem nx_xor (a b : Nat) : nI a ^^^ nI b = nI (a ^^^ b) := by
  apply Int32.toBitVec_inj.1
  show BitVec.ofNat 32 a ^^^ BitVec.ofNat 32 b = BitVec.ofNat 32 (a ^^^ b)
  apply BitVec.eq_of_getLsbD_eq
  intro i hi
  simp [hi]
/-! own: numbers -/
theorem rb_eq0 {a : Nat} (h : a < 2 ^ 31) : nI a = 0 ↔ a = 0 := by
  rw [← nI_0, nI_eq h (by omega)]
theorem rb_le0 {a : Nat} (h : a < 2 ^ 31) : nI a ≤ 0 ↔ a = 0 := by
  rw [← nI_0, nI_leI h (by omega)]; omega
theorem rb_n1lt : (-1 : Int32) < 0 := by decide
theorem rb_n1le : ¬ (0 : Int32) ≤ -1 := by decide
theorem rb_ne1 {a : Nat} (h : a < 2 ^ 31) : ¬ nI a = -1 := by
  intro e
  have := nI_pos (n := a) h
  rw [e] at this
  exact this rb_n1lt
theorem rb_4 : ¬ (4 : Int32) = 0 := by decide
theorem rb_6 : ¬ (6 : Int32) = 0 := by decide
theorem rb_16 : ¬ (16 : Int32) = 0 := by decide
theorem rb_20 : ¬ (20 : Int32) = 0 := by decide
theorem rb_d4 {b : Nat} (h : b < 2 ^ 31) : nI b / 4 = nI (b / 4) := pk_div (d := 4) h (by decide) (by decide)
theorem rb_r4 {b : Nat} (h : b < 2 ^ 31) : nI b - nI b / 4 * 4 = nI (b % 4) := pk_rem (d := 4) h (by decide) (by decide)
theorem rb_d20 {b : Nat} (h : b < 2 ^ 31) : nI b / 20 = nI (b / 20) := pk_div (d := 20) h (by decide) (by decide)
theorem rb_r6 {b : Nat} (h : b < 2 ^ 31) : nI b - nI b / 6 * 6 = nI (b % 6) := pk_rem (d := 6) h (by decide) (by decide)
theorem rb_r16 {b : Nat} (h : b < 2 ^ 31) : nI b - nI b / 16 * 16 = nI (b % 16) := pk_rem (d := 16) h (by decide) (by decide)
theorem rb_dk {s k : Nat} (hs : s < 1000) (hk : k < 1000) : (nI s + nI k) - (nI s + nI k) / 6 * 6 = nI ((s + k) % 6) := by
  rw [nI_add, rb_r6 (by omega)]
theorem rb_cell (d s : Nat) : (nI d * 16) + nI s = nI (d * 16 + s) := by
  rw [show (16 : Int32) = nI 16 from rfl, pk_mul, nI_add]
theorem rb_cell' (d s : Nat) : (16 * nI d) + nI s = nI (d * 16 + s) := by
  rw [show (16 : Int32) = nI 16 from rfl, pk_mul, nI_add, Nat.mul_comm]
theorem rb_slot (v l : Nat) : (nI v * 20) + nI l = nI (v * 20 + l) := by
  rw [show (20 : Int32) = nI 20 from rfl, pk_mul, nI_add]
theorem rb_slot' (v l : Nat) : (20 * nI v) + nI l = nI (v * 20 + l) := by
  rw [show (20 : Int32) = nI 20 from rfl, pk_mul, nI_add, Nat.mul_comm]
theorem rb_shl (x : Int32) : x <<< ((1 : Int32) &&& 31) = 2 * x := by
  apply Int32.toBitVec_inj.mp
  apply BitVec.eq_of_toNat_eq
  rw [pk_shl _ _ 1 (by decide), Int32.toBitVec_mul, BitVec.toNat_mul, show (2 : Int32).toBitVec.toNat = 2 from rfl, Nat.mul_comm]
theorem rb_vb0 : vp_nar .boolean 0 = 0 := by decide
theorem rb_vb1 : vp_nar .boolean 1 = 1 := by decide
theorem rb_uu {f : Nat → Int32} {k : Nat} {x y : Int32} : upd (upd f k x) k y = upd f k y := by
  funext j
  unfold upd
  by_cases h : j = k
  · rw [if_pos h, if_pos h]
  · rw [if_neg h, if_neg h, if_neg h]
theorem rb_ui {f : Nat → Int32} {k : Nat} : upd f k (f k) = f := by
  funext j
  unfold upd
  by_cases h : j = k
  · rw [if_pos h, h]
  · rw [if_neg h]
theorem rb_uc {f : Nat → Int32} {k l : Nat} {x y : Int32} (h : k ≠ l) : upd (upd f k x) l y = upd (upd f l y) k x := by
  funext j
  unfold upd
  by_cases a : j = l
  · rw [if_pos a, if_neg (by omega), if_pos a]
  · rw [if_neg a]
    by_cases b : j = k
    · rw [if_pos b, if_pos b]
    · rw [if_neg b, if_neg b, if_neg a]
theorem rb_at {P : Int32 → Prop} {x y : Int32} (e : x = y) (h : P y) : P x := e ▸ h
end
end
section
section
/-! bytes, and the products of the document's field, over naturals and over ints -/
def is_b (x : Int32) : Prop := ∃ n : Nat, n < 256 ∧ x = nI n
theorem is_b0 : is_b 0 := ⟨0, by decide, rfl⟩
theorem is_bx {x y : Int32} (hx : is_b x) (hy : is_b y) : is_b (x ^^^ y) := by
  obtain ⟨a, ha, rfl⟩ := hx
  obtain ⟨b, hb, rfl⟩ := hy
  exact ⟨a ^^^ b, Nat.xor_lt_two_pow (n := 8) ha hb, nx_xor a b⟩
theorem is_ba (x : Int32) : is_b (x &&& 255) := by
  obtain ⟨j, hj, e⟩ := pk_andE x (m := 255) 8 (by decide)
  exact ⟨j, hj, e⟩
def gf_s (x : Int32) : Int32 := if 2 * x < 256 then 2 * x else 2 * x ^^^ 285
def gf_d : Nat → Int32 → Int32
  | 0, x => x
  | k + 1, x => gf_d k (gf_s x)
def gf_n (a : Nat) : Nat := if 2 * a < 256 then 2 * a else 2 * a ^^^ 285
def gf_m : Nat → Nat → Nat
  | 0, a => a
  | k + 1, a => gf_m k (gf_n a)
theorem gf_nb : ∀ a : Nat, a < 256 → gf_n a < 256 := by decide +kernel
theorem gf_mb : ∀ (k a : Nat), a < 256 → gf_m k a < 256 := by
  intro k
  induction k with
  | zero => intro a h; exact h
  | succ k ih => intro a h; exact ih _ (gf_nb a h)
theorem gf_sn {a : Nat} (h : a < 256) : gf_s (nI a) = nI (gf_n a) := by
  unfold gf_s gf_n
  have e : (2 : Int32) * nI a = nI (2 * a) := pk_mul 2 a
  rw [e]
  by_cases c : 2 * a < 256
  · have h1 : nI (2 * a) < 256 := nI_lt (b := 256) c (by decide)
    rw [if_pos c, if_pos h1]
  · have h1 : ¬ nI (2 * a) < 256 := nI_nlt (a := 2 * a) (b := 256) (by omega) (by omega)
    rw [if_neg c, if_neg h1]
    exact nx_xor (2 * a) 285
theorem gf_dn : ∀ (k a : Nat), a < 256 → gf_d k (nI a) = nI (gf_m k a) := by
  intro k
  induction k with
  | zero => intro a _; rfl
  | succ k ih =>
    intro a h
    show gf_d k (gf_s (nI a)) = nI (gf_m k (gf_n a))
    rw [gf_sn h]
    exact ih _ (gf_nb a h)
theorem is_bp {x : Int32} (k : Nat) (hx : is_b x) : is_b (gf_d k x) := by
  obtain ⟨a, ha, rfl⟩ := hx
  exact ⟨gf_m k a, gf_mb k a ha, gf_dn k a ha⟩
theorem gf_nt : ∀ a : Nat, a < 256 → gf_n a = 2 * a ^^^ (if a.testBit 7 then 285 else 0) := by decide +kernel
theorem gf_nx {a b : Nat} (ha : a < 256) (hb : b < 256) : gf_n (a ^^^ b) = gf_n a ^^^ gf_n b := by
  rw [gf_nt a ha, gf_nt b hb, gf_nt (a ^^^ b) (Nat.xor_lt_two_pow (n := 8) ha hb), Nat.testBit_xor]
  have e : 2 * (a ^^^ b) = 2 * a ^^^ 2 * b := by
    have := Nat.shiftLeft_xor_distrib (a := a) (b := b) (i := 1)
    simp only [Nat.shiftLeft_eq, Nat.pow_one] at this
    rw [Nat.mul_comm 2, Nat.mul_comm 2 a, Nat.mul_comm 2 b]
    exact this
  rw [e]
  cases a.testBit 7 <;> cases b.testBit 7 <;> simp only [Bool.xor_true, Bool.xor_false, Bool.not_true, Bool.not_false, Bool.false_eq_true, if_true, if_false, Nat.xor_zero]
  · ac_rfl
  · ac_rfl
  · rw [show 2 * a ^^^ 285 ^^^ (2 * b ^^^ 285) = (2 * a ^^^ 2 * b) ^^^ (285 ^^^ 285) by ac_rfl, Nat.xor_self, Nat.xor_zero]
theorem gf_mx : ∀ (k : Nat) {a b : Nat}, a < 256 → b < 256 → gf_m k (a ^^^ b) = gf_m k a ^^^ gf_m k b := by
  intro k
  induction k with
  | zero => intro a b _ _; rfl
  | succ k ih =>
    intro a b ha hb
    show gf_m k (gf_n (a ^^^ b)) = gf_m k (gf_n a) ^^^ gf_m k (gf_n b)
    rw [gf_nx ha hb]
    exact ih (gf_nb a ha) (gf_nb b hb)
/-- the product of e and a, by the digits of e -/
def pi_m (e a : Nat) : Nat := (if e.testBit 0 then gf_m 0 a else 0) ^^^ (if e.testBit 1 then gf_m 1 a else 0) ^^^ (if e.testBit 2 then gf_m 2 a else 0) ^^^ (if e.testBit 3 then gf_m 3 a else 0) ^^^ (if e.testBit 4 then gf_m 4 a else 0) ^^^ (if e.testBit 5 then gf_m 5 a else 0) ^^^ (if e.testBit 6 then gf_m 6 a else 0) ^^^ (if e.testBit 7 then gf_m 7 a else 0)
theorem pi_0 : ∀ a : Nat, a < 256 → pi_m 1 a < 256 ∧ gf_m 0 (pi_m 1 a) = a ∧ pi_m 1 (gf_m 0 a) = a := by decide +kernel
theorem pi_1 : ∀ a : Nat, a < 256 → pi_m 142 a < 256 ∧ gf_m 1 (pi_m 142 a) = a ∧ pi_m 142 (gf_m 1 a) = a := by decide +kernel
theorem pi_2 : ∀ a : Nat, a < 256 → pi_m 71 a < 256 ∧ gf_m 2 (pi_m 71 a) = a ∧ pi_m 71 (gf_m 2 a) = a := by decide +kernel
theorem pi_3 : ∀ a : Nat, a < 256 → pi_m 173 a < 256 ∧ gf_m 3 (pi_m 173 a) = a ∧ pi_m 173 (gf_m 3 a) = a := by decide +kernel
theorem pi_01 : ∀ a : Nat, a < 256 → pi_m 244 a < 256 ∧ gf_m 0 (pi_m 244 a) ^^^ gf_m 1 (pi_m 244 a) = a ∧ pi_m 244 (gf_m 0 a ^^^ gf_m 1 a) = a := by decide +kernel
theorem pi_02 : ∀ a : Nat, a < 256 → pi_m 167 a < 256 ∧ gf_m 0 (pi_m 167 a) ^^^ gf_m 2 (pi_m 167 a) = a ∧ pi_m 167 (gf_m 0 a ^^^ gf_m 2 a) = a := by decide +kernel
theorem pi_03 : ∀ a : Nat, a < 256 → pi_m 157 a < 256 ∧ gf_m 0 (pi_m 157 a) ^^^ gf_m 3 (pi_m 157 a) = a ∧ pi_m 157 (gf_m 0 a ^^^ gf_m 3 a) = a := by decide +kernel
theorem pi_12 : ∀ a : Nat, a < 256 → pi_m 122 a < 256 ∧ gf_m 1 (pi_m 122 a) ^^^ gf_m 2 (pi_m 122 a) = a ∧ pi_m 122 (gf_m 1 a ^^^ gf_m 2 a) = a := by decide +kernel
theorem pi_13 : ∀ a : Nat, a < 256 → pi_m 221 a < 256 ∧ gf_m 1 (pi_m 221 a) ^^^ gf_m 3 (pi_m 221 a) = a ∧ pi_m 221 (gf_m 1 a ^^^ gf_m 3 a) = a := by decide +kernel
theorem pi_23 : ∀ a : Nat, a < 256 → pi_m 61 a < 256 ∧ gf_m 2 (pi_m 61 a) ^^^ gf_m 3 (pi_m 61 a) = a ∧ pi_m 61 (gf_m 2 a ^^^ gf_m 3 a) = a := by decide +kernel
theorem pi_one {k : Nat} (hk : k < 4) : ∃ e : Nat, ∀ a : Nat, a < 256 → pi_m e a < 256 ∧ gf_m k (pi_m e a) = a ∧ pi_m e (gf_m k a) = a := by
  match k, hk with
  | 0, _ => exact ⟨_, pi_0⟩
  | 1, _ => exact ⟨_, pi_1⟩
  | 2, _ => exact ⟨_, pi_2⟩
  | 3, _ => exact ⟨_, pi_3⟩
theorem pi_two {g n : Nat} (hg : g < n) (hn : n < 4) : ∃ e : Nat, ∀ a : Nat, a < 256 → pi_m e a < 256 ∧ gf_m g (pi_m e a) ^^^ gf_m n (pi_m e a) = a ∧ pi_m e (gf_m g a ^^^ gf_m n a) = a := by
  have h : (g = 0 ∧ n = 1) ∨ (g = 0 ∧ n = 2) ∨ (g = 0 ∧ n = 3) ∨ (g = 1 ∧ n = 2) ∨ (g = 1 ∧ n = 3) ∨ (g = 2 ∧ n = 3) := by omega
  rcases h with ⟨rfl, rfl⟩ | ⟨rfl, rfl⟩ | ⟨rfl, rfl⟩ | ⟨rfl, rfl⟩ | ⟨rfl, rfl⟩ | ⟨rfl, rfl⟩
  · exact ⟨_, pi_01⟩
  · exact ⟨_, pi_02⟩
  · exact ⟨_, pi_03⟩
  · exact ⟨_, pi_12⟩
  · exact ⟨_, pi_13⟩
  · exact ⟨_, pi_23⟩
/-- one byte makes the product right -/
theorem sol_1 {k : Nat} (hk : k < 4) {q : Int32} (hq : is_b q) : ∃ x : Nat, x < 256 ∧ gf_d k (nI x) = q ∧ ∀ y : Nat, y < 256 → gf_d k (nI y) = q → y = x := by
  obtain ⟨c, hc, rfl⟩ := hq
  obtain ⟨e, he⟩ := pi_one hk
  obtain ⟨h1, h2, _⟩ := he c hc
  refine ⟨pi_m e c, h1, by rw [gf_dn k _ h1, h2], fun y hy ey => ?_⟩
  rw [gf_dn k y hy] at ey
  have hb := gf_mb k y hy
  have := (nI_eq (by omega) (by omega)).mp ey
  rw [← this]
  exact (he y hy).2.2.symm
/-- one byte of a pair with a given sum makes the products right -/
theorem sol_2 {g n : Nat} (hg : g < n) (hn : n < 4) {p q : Int32} (hp : is_b p) (hq : is_b q) : ∃ x : Nat, x < 256 ∧ gf_d g (nI x) ^^^ gf_d n (p ^^^ nI x) = q ∧ ∀ y : Nat, y < 256 → gf_d g (nI y) ^^^ gf_d n (p ^^^ nI y) = q → y = x := by
  obtain ⟨c, hc, rfl⟩ := hq
  obtain ⟨d, hd, rfl⟩ := hp
  obtain ⟨e, he⟩ := pi_two hg hn
  have key : ∀ y : Nat, y < 256 → gf_d g (nI y) ^^^ gf_d n (nI d ^^^ nI y) = nI ((gf_m g y ^^^ gf_m n y) ^^^ gf_m n d) := by
    intro y hy
    rw [nx_xor, gf_dn g y hy, gf_dn n _ (Nat.xor_lt_two_pow (n := 8) hd hy), nx_xor, gf_mx n hd hy]
    congr 1
    ac_rfl
  have hd' := gf_mb n d hd
  have hcd : c ^^^ gf_m n d < 256 := Nat.xor_lt_two_pow (n := 8) hc hd'
  obtain ⟨h1, h2, _⟩ := he _ hcd
  refine ⟨pi_m e (c ^^^ gf_m n d), h1, ?_, fun y hy ey => ?_⟩
  · rw [key _ h1, h2, Nat.xor_assoc, Nat.xor_self, Nat.xor_zero]
  · rw [key y hy] at ey
    have hb : (gf_m g y ^^^ gf_m n y) ^^^ gf_m n d < 256 := Nat.xor_lt_two_pow (n := 8) (Nat.xor_lt_two_pow (n := 8) (gf_mb g y hy) (gf_mb n y hy)) hd'
    have ec := (nI_eq (by omega) (by omega)).mp ey
    rw [← ec, Nat.xor_assoc, Nat.xor_self, Nat.xor_zero]
    exact (he y hy).2.2.symm
theorem gf_d0 (k : Nat) : gf_d k 0 = 0 := by
  induction k with
  | zero => rfl
  | succ k ih => exact ih
/-- the sum of the data bytes, the sum of their products -/
def sm_D (a : Nat → Int32) : Int32 := ((a 0 ^^^ a 1) ^^^ a 2) ^^^ a 3
def sm_P (a : Nat → Int32) : Int32 := (((0 ^^^ gf_d 0 (a 0)) ^^^ gf_d 1 (a 1)) ^^^ gf_d 2 (a 2)) ^^^ gf_d 3 (a 3)
theorem sm_Du {a : Nat → Int32} {k : Nat} {x : Int32} (hk : k < 4) (h : a k = 0) : sm_D (upd a k x) = x ^^^ sm_D a := by
  match k, hk with
  | 0, _ => simp only [sm_D, upd, h, if_true, if_neg (by decide : ¬ (1 : Nat) = 0), if_neg (by decide : ¬ (2 : Nat) = 0), if_neg (by decide : ¬ (3 : Nat) = 0), Int32.zero_xor]; ac_rfl
  | 1, _ => simp only [sm_D, upd, h, if_true, if_neg (by decide : ¬ (0 : Nat) = 1), if_neg (by decide : ¬ (2 : Nat) = 1), if_neg (by decide : ¬ (3 : Nat) = 1), Int32.xor_zero]; ac_rfl
  | 2, _ => simp only [sm_D, upd, h, if_true, if_neg (by decide : ¬ (0 : Nat) = 2), if_neg (by decide : ¬ (1 : Nat) = 2), if_neg (by decide : ¬ (3 : Nat) = 2), Int32.xor_zero]; ac_rfl
  | 3, _ => simp only [sm_D, upd, h, if_true, if_neg (by decide : ¬ (0 : Nat) = 3), if_neg (by decide : ¬ (1 : Nat) = 3), if_neg (by decide : ¬ (2 : Nat) = 3), Int32.xor_zero]; ac_rfl
theorem sm_Pu {a : Nat → Int32} {k : Nat} {x : Int32} (hk : k < 4) (h : a k = 0) : sm_P (upd a k x) = gf_d k x ^^^ sm_P a := by
  match k, hk with
  | 0, _ => simp only [sm_P, upd, h, gf_d0, if_true, if_neg (by decide : ¬ (1 : Nat) = 0), if_neg (by decide : ¬ (2 : Nat) = 0), if_neg (by decide : ¬ (3 : Nat) = 0), Int32.zero_xor, Int32.xor_zero]; ac_rfl
  | 1, _ => simp only [sm_P, upd, h, gf_d0, if_true, if_neg (by decide : ¬ (0 : Nat) = 1), if_neg (by decide : ¬ (2 : Nat) = 1), if_neg (by decide : ¬ (3 : Nat) = 1), Int32.zero_xor, Int32.xor_zero]; ac_rfl
  | 2, _ => simp only [sm_P, upd, h, gf_d0, if_true, if_neg (by decide : ¬ (0 : Nat) = 2), if_neg (by decide : ¬ (1 : Nat) = 2), if_neg (by decide : ¬ (3 : Nat) = 2), Int32.zero_xor, Int32.xor_zero]; ac_rfl
  | 3, _ => simp only [sm_P, upd, h, gf_d0, if_true, if_neg (by decide : ¬ (0 : Nat) = 3), if_neg (by decide : ¬ (1 : Nat) = 3), if_neg (by decide : ¬ (2 : Nat) = 3), Int32.zero_xor, Int32.xor_zero]; ac_rfl
/-- alike in the six seats -/
def ag_6 (a b : Nat → Int32) : Prop := ∀ j : Nat, j < 6 → a j = b j
theorem ag_D {a b : Nat → Int32} (h : ag_6 a b) : sm_D a = sm_D b := by
  unfold sm_D
  rw [h 0 (by decide), h 1 (by decide), h 2 (by decide), h 3 (by decide)]
theorem ag_P {a b : Nat → Int32} (h : ag_6 a b) : sm_P a = sm_P b := by
  unfold sm_P
  rw [h 0 (by decide), h 1 (by decide), h 2 (by decide), h 3 (by decide)]
theorem ag_u {a b : Nat → Int32} {k : Nat} {x y : Int32} (h : ag_6 a b) (e : x = y) : ag_6 (upd a k x) (upd b k y) := by
  intro j hj
  unfold upd
  by_cases c : j = k
  · rw [if_pos c, if_pos c, e]
  · rw [if_neg c, if_neg c, h j hj]
/-- the two parities, where their bytes are not there -/
def fn_1 (tP : Int32) (a : Nat → Int32) : Nat → Int32 := if tP = 0 then upd a 4 (sm_D a) else a
def fn_2 (tQ : Int32) (a : Nat → Int32) : Nat → Int32 := if tQ = 0 then upd a 5 (sm_P a) else a
theorem ag_f1 {a b : Nat → Int32} {t : Int32} (h : ag_6 a b) : ag_6 (fn_1 t a) (fn_1 t b) := by
  unfold fn_1
  by_cases c : t = 0
  · rw [if_pos c, if_pos c]; exact ag_u h (ag_D h)
  · rw [if_neg c, if_neg c]; exact h
theorem ag_f2 {a b : Nat → Int32} {t : Int32} (h : ag_6 a b) : ag_6 (fn_2 t a) (fn_2 t b) := by
  unfold fn_2
  by_cases c : t = 0
  · rw [if_pos c, if_pos c]; exact ag_u h (ag_P h)
  · rw [if_neg c, if_neg c]; exact h
def by_6 (a : Nat → Int32) : Prop := ∀ j : Nat, j < 6 → is_b (a j)
theorem by_D {a : Nat → Int32} (h : by_6 a) : is_b (sm_D a) :=
  is_bx (is_bx (is_bx (h 0 (by decide)) (h 1 (by decide))) (h 2 (by decide))) (h 3 (by decide))
theorem by_P {a : Nat → Int32} (h : by_6 a) : is_b (sm_P a) :=
  is_bx (is_bx (is_bx (is_bx is_b0 (is_bp 0 (h 0 (by decide)))) (is_bp 1 (h 1 (by decide)))) (is_bp 2 (h 2 (by decide)))) (is_bp 3 (h 3 (by decide)))
theorem by_u {a : Nat → Int32} {k : Nat} {x : Int32} (h : by_6 a) (hx : is_b x) : by_6 (upd a k x) := by
  intro j hj
  unfold upd
  by_cases c : j = k
  · rw [if_pos c]; exact hx
  · rw [if_neg c]; exact h j hj
theorem by_f1 {a : Nat → Int32} {t : Int32} (h : by_6 a) : by_6 (fn_1 t a) := by
  unfold fn_1
  by_cases c : t = 0
  · rw [if_pos c]; exact by_u h (by_D h)
  · rw [if_neg c]; exact h
theorem by_f2 {a : Nat → Int32} {t : Int32} (h : by_6 a) : by_6 (fn_2 t a) := by
  unfold fn_2
  by_cases c : t = 0
  · rw [if_pos c]; exact by_u h (by_P h)
  · rw [if_neg c]; exact h
theorem xo_r (S T w : Int32) : T ^^^ S = w ↔ T = w ^^^ S := by
  constructor
  · intro h; rw [← h, Int32.xor_assoc, Int32.xor_self, Int32.xor_zero]
  · intro h; rw [h, Int32.xor_assoc, Int32.xor_self, Int32.xor_zero]
end
end
section
section
variable {wc dl ns nb ca dn sn bm : Int32} {ba ds mk wo vt bo us ws wv nt ys yv yz : Nat → Int32}
/-! products and sums, on both sides -/
theorem xp_l {post : Int32 → Prop} {k : Nat} (hk : k < 2 ^ 31) : ∀ (e i : Nat) (x : Int32), i + e = k → post (gf_d e x) → wX_product_5 post (nI k) wc dl ns nb ca dn sn bm ba ds mk wo vt bo us ws wv nt (e + 1) x (nI i) := by
  intro e
  induction e with
  | zero => intro i x hi hp; exact br_t (nI_le (by omega) (by omega)) hp
  | succ e ih =>
    intro i x hi hp
    refine br_f (nI_ge (by omega) (by omega)) (nm_r (rb_shl x) (br_c (fun h => nm_r (nI_1 i) (ih _ _ (by omega) ?_)) (fun h => nm_e (nm_r (nI_1 i) (ih _ _ (by omega) ?_)))))
    · have hp : post (gf_d e (gf_s x)) := hp
      rw [gf_s, if_pos h] at hp; exact hp
    · have hp : post (gf_d e (gf_s x)) := hp
      rw [gf_s, if_neg h] at hp; exact hp
theorem xp_r {post : Int32 → Prop} {k : Nat} {x : Int32} (hk : k < 2 ^ 31) (h : post (gf_d k x)) : wpX_product post (wc, dl, ns, nb, ca, dn, sn, bm, ba, ds, mk, wo, vt, bo, us, ws, wv, nt) (nI k) x :=
  ⟨k + 1, xp_l hk k 0 x (by omega) h⟩
theorem yp_l {post : Int32 → Prop} {k : Nat} (hk : k < 2 ^ 31) : ∀ (e i : Nat) (x : Int32), i + e = k → post (gf_d e x) → wY_product_4 post (nI k) (e + 1) x (nI i) := by
  intro e
  induction e with
  | zero => intro i x hi hp; exact br_t (nI_le (by omega) (by omega)) hp
  | succ e ih =>
    intro i x hi hp
    have hp : post (gf_d e (gf_s x)) := hp
    refine br_f (nI_ge (by omega) (by omega)) (br_c (fun h => nm_e (nm_r (nI_1 i) (ih _ _ (by omega) ?_))) (fun h => nm_e (nm_r (nI_1 i) (ih _ _ (by omega) ?_))))
    · rw [gf_s, if_neg (Int32.not_lt.mpr h)] at hp; exact hp
    · rw [gf_s, if_pos (Int32.not_le.mp h)] at hp; exact hp
theorem yp_r {post : Int32 → Prop} {k : Nat} {x : Int32} (hk : k < 2 ^ 31) (h : post (gf_d k x)) : wpY_product post (nI k) x :=
  ⟨k + 1, yp_l hk k 0 x (by omega) h⟩
theorem xs_s {post : Int32 → Prop} {i n : Nat} {q : Int32} (hi : i < 4) (h : wX_sumOfProducts_4 post wc dl ns nb ca dn sn bm ba ds mk wo vt bo us ws wv nt n (q ^^^ gf_d i (wo i)) (nI (i + 1))) : wX_sumOfProducts_4 post wc dl ns nb ca dn sn bm ba ds mk wo vt bo us ws wv nt (n + 1) q (nI i) := by
  refine br_f (nI_ge (b := 4) hi (by decide)) ⟨vp_in_nI (by omega) (by omega), xp_r (by omega) ?_⟩
  rw [nI_clamp (by omega)]
  exact nm_e (nm_r (nI_1 i) h)
theorem xs_r {post : Int32 → Prop} (h : post (sm_P wo)) : wpX_sumOfProducts post (wc, dl, ns, nb, ca, dn, sn, bm, ba, ds, mk, wo, vt, bo, us, ws, wv, nt) :=
  ⟨5, xs_s (i := 0) (by decide) (xs_s (i := 1) (by decide) (xs_s (i := 2) (by decide) (xs_s (i := 3) (by decide) (br_t (by decide) h))))⟩
theorem ys_s {post : Int32 → Prop} {i n : Nat} {q : Int32} (hi : i < 4) (h : wY_sumOfProducts_4 post dl ca sn bm dn wc nb ns ba ds mk vt bo ys yv nt yz n (q ^^^ gf_d i (yz i)) (nI (i + 1))) : wY_sumOfProducts_4 post dl ca sn bm dn wc nb ns ba ds mk vt bo ys yv nt yz (n + 1) q (nI i) := by
  refine br_f (nI_ge (b := 4) hi (by decide)) ⟨vp_in_nI (by omega) (by omega), yp_r (by omega) ?_⟩
  rw [nI_clamp (by omega)]
  exact nm_e (nm_r (nI_1 i) h)
theorem ys_r {post : Int32 → Prop} (h : post (sm_P yz)) : wpY_sumOfProducts post (dl, ca, sn, bm, dn, wc, nb, ns, ba, ds, mk, vt, bo, ys, yv, nt, yz) :=
  ⟨5, ys_s (i := 0) (by decide) (ys_s (i := 1) (by decide) (ys_s (i := 2) (by decide) (ys_s (i := 3) (by decide) (br_t (by decide) h))))⟩
theorem xd_r {post : Int32 → Prop} (h : post (sm_D wo)) : wpX_sumOfData post (wc, dl, ns, nb, ca, dn, sn, bm, ba, ds, mk, wo, vt, bo, us, ws, wv, nt) := h
theorem yd_r {post : Int32 → Prop} (h : post (sm_D yz)) : wpY_sum post (dl, ca, sn, bm, dn, wc, nb, ns, ba, ds, mk, vt, bo, ys, yv, nt, yz) := h
/-! whether a byte is there -/
def th_v (ds mk : Nat → Int32) (d s : Nat) : Int32 := if ds d = 0 then 1 else if ds d = 2 then (if mk d ≤ nI s then 0 else 1) else 0
theorem th_n (d s : Nat) : narrow .boolean (.int (th_v ds mk d s)) = .int (th_v ds mk d s) := by
  unfold th_v
  split
  · rfl
  · split
    · split <;> rfl
    · rfl
theorem xt_r {post : Int32 → Prop} {d s : Nat} (hd : d < 6) (hs : s < 16) (h : post (th_v ds mk d s)) : wpX_isThere post (wc, dl, ns, nb, ca, dn, sn, bm, ba, ds, mk, wo, vt, bo, us, ws, wv, nt) (nI d) (nI s) := by
  refine br_f (nI_pos (by omega)) (br_f (nI_ge (b := 6) hd (by decide)) (br_f (nI_pos (by omega)) (br_t (nI_lt (b := 16) hs (by decide)) ⟨vp_in_nI hd (by omega), ?_⟩)))
  rw [nI_clamp (by omega)]
  unfold th_v at h
  refine br_c (fun a => ?_) (fun a => ⟨vp_in_nI hd (by omega), br_c (fun b => ⟨vp_in_nI hd (by omega), br_c (fun c => ?_) (fun c => ?_)⟩) (fun b => ?_)⟩)
  · rw [if_pos a] at h; exact h
  · rw [if_neg a, if_pos b, if_pos c] at h; exact h
  · rw [if_neg a, if_pos b, if_neg c] at h; exact h
  · rw [if_neg a, if_neg b] at h; exact h
theorem yt_r {post : Int32 → Prop} {d s : Nat} (hd : d < 6) (h : post (th_v ds mk d s)) : wpY_isThere post (dl, ca, sn, bm, dn, wc, nb, ns, ba, ds, mk, vt, bo, ys, yv, nt, yz) (nI d) (nI s) := by
  refine ⟨vp_in_nI hd (by omega), ?_⟩
  rw [nI_clamp (by omega)]
  unfold th_v at h
  refine br_c (fun a => ?_) (fun a => ⟨vp_in_nI hd (by omega), br_c (fun b => ⟨vp_in_nI hd (by omega), br_c (fun c => ?_) (fun c => ?_)⟩) (fun b => ?_)⟩)
  · rw [if_pos a] at h; exact h
  · rw [if_neg a, if_pos b, if_pos c] at h; exact h
  · rw [if_neg a, if_pos b, if_neg c] at h; exact h
  · rw [if_neg a, if_neg b] at h; exact h
theorem yh_r {post : Int32 → Prop} {s k : Nat} (hs : s < 16) (hk : k < 6) (h : post (th_v ds mk ((s + k) % 6) s)) : wpY_has post (dl, ca, sn, bm, dn, wc, nb, ns, ba, ds, mk, vt, bo, ys, yv, nt, yz) (nI s) (nI k) := by
  refine ⟨rb_6, ?_⟩
  rw [rb_dk (by omega) (by omega)]
  exact yt_r (Nat.mod_lt _ (by decide)) ⟨th_n _ _, h⟩
theorem yc_r {post : Int32 → Prop} {s k : Nat} (hs : s < 16) (hk : k < 6) (h : post (nI ((s + k) % 6 * 16 + s))) : wpY_cell post (nI s) (nI k) := by
  refine ⟨rb_6, ?_⟩
  rw [rb_dk (by omega) (by omega), rb_cell]
  exact h
/-! how many bytes of a stripe are missing -/
def cm_x (ds mk : Nat → Int32) (s : Nat) : Nat → Nat
  | 0 => 0
  | n + 1 => cm_x ds mk s n + if th_v ds mk n s = 0 then 1 else 0
def cm_y (ds mk : Nat → Int32) (s : Nat) : Nat → Nat
  | 0 => 0
  | n + 1 => cm_y ds mk s n + if th_v ds mk ((s + n) % 6) s = 0 then 1 else 0
theorem cm_e (s : Nat) : cm_y ds mk s 6 = cm_x ds mk s 6 := by
  simp only [cm_x, cm_y]
  generalize hf : (fun d => if th_v ds mk d s = 0 then 1 else 0) = f
  have e : ∀ d, (if th_v ds mk d s = 0 then 1 else 0) = f d := fun d => by rw [← hf]
  simp only [e]
  have h : s % 6 = 0 ∨ s % 6 = 1 ∨ s % 6 = 2 ∨ s % 6 = 3 ∨ s % 6 = 4 ∨ s % 6 = 5 := by omega
  rcases h with h | h | h | h | h | h
  · rw [show (s + 0) % 6 = 0 by omega, show (s + 1) % 6 = 1 by omega, show (s + 2) % 6 = 2 by omega, show (s + 3) % 6 = 3 by omega, show (s + 4) % 6 = 4 by omega, show (s + 5) % 6 = 5 by omega]
  · rw [show (s + 0) % 6 = 1 by omega, show (s + 1) % 6 = 2 by omega, show (s + 2) % 6 = 3 by omega, show (s + 3) % 6 = 4 by omega, show (s + 4) % 6 = 5 by omega, show (s + 5) % 6 = 0 by omega]; omega
  · rw [show (s + 0) % 6 = 2 by omega, show (s + 1) % 6 = 3 by omega, show (s + 2) % 6 = 4 by omega, show (s + 3) % 6 = 5 by omega, show (s + 4) % 6 = 0 by omega, show (s + 5) % 6 = 1 by omega]; omega
  · rw [show (s + 0) % 6 = 3 by omega, show (s + 1) % 6 = 4 by omega, show (s + 2) % 6 = 5 by omega, show (s + 3) % 6 = 0 by omega, show (s + 4) % 6 = 1 by omega, show (s + 5) % 6 = 2 by omega]; omega
  · rw [show (s + 0) % 6 = 4 by omega, show (s + 1) % 6 = 5 by omega, show (s + 2) % 6 = 0 by omega, show (s + 3) % 6 = 1 by omega, show (s + 4) % 6 = 2 by omega, show (s + 5) % 6 = 3 by omega]; omega
  · rw [show (s + 0) % 6 = 5 by omega, show (s + 1) % 6 = 0 by omega, show (s + 2) % 6 = 1 by omega, show (s + 3) % 6 = 2 by omega, show (s + 4) % 6 = 3 by omega, show (s + 5) % 6 = 4 by omega]; omega
theorem xm_s {post : Int32 → Prop} {s i c n : Nat} (hs : s < 16) (hi : i < 6) (h : wX_countMissing_4 post (nI s) wc dl ns nb ca dn sn bm ba ds mk wo vt bo us ws wv nt n (nI (c + if th_v ds mk i s = 0 then 1 else 0)) (nI (i + 1))) : wX_countMissing_4 post (nI s) wc dl ns nb ca dn sn bm ba ds mk wo vt bo us ws wv nt (n + 1) (nI c) (nI i) := by
  refine br_f (nI_ge (b := 6) hi (by decide)) (xt_r hi hs (br_c (fun z => ?_) (fun z => ?_)))
  · rw [if_pos z] at h
    exact nm_r (nI_1 c) (nm_r (nI_1 i) h)
  · rw [if_neg z] at h
    exact nm_r (nI_1 i) h
theorem xm_r {post : Int32 → Prop} {s : Nat} (hs : s < 16) (h : post (nI (cm_x ds mk s 6))) : wpX_countMissing post (wc, dl, ns, nb, ca, dn, sn, bm, ba, ds, mk, wo, vt, bo, us, ws, wv, nt) (nI s) :=
  ⟨7, xm_s (i := 0) (c := 0) hs (by decide) (xm_s (i := 1) hs (by decide) (xm_s (i := 2) hs (by decide) (xm_s (i := 3) hs (by decide) (xm_s (i := 4) hs (by decide) (xm_s (i := 5) hs (by decide) (br_t (by decide) h))))))⟩
theorem cm_le {s : Nat} : ∀ n, cm_x ds mk s n ≤ n := by
  intro n
  induction n with
  | zero => exact Nat.le_refl 0
  | succ n ih =>
    show cm_x ds mk s n + (if _ then 1 else 0) ≤ n + 1
    split <;> omega
def lo_v (ds mk : Nat → Int32) (s : Nat) : Int32 := if cm_x ds mk s 6 ≤ 2 then 0 else 1
theorem xl_r {post : Int32 → Prop} {s : Nat} (hs : s < 16) (h : post (lo_v ds mk s)) : wpX_isLost post (wc, dl, ns, nb, ca, dn, sn, bm, ba, ds, mk, wo, vt, bo, us, ws, wv, nt) (nI s) := by
  unfold wpX_isLost
  have hc := cm_le (ds := ds) (mk := mk) (s := s) 6
  unfold lo_v at h
  refine xm_r hs (pk_le (cm_x ds mk s 6) 2 (fun z => ?_) (fun z => ?_))
  · rw [if_pos z] at h; exact h
  · rw [if_neg (by omega)] at h; exact h
theorem yl_s {post : Int32 → Prop} {s i c n : Nat} (hs : s < 16) (hi : i < 6) (h : wY_lost_4 post (nI s) dl ca sn bm dn wc nb ns ba ds mk vt bo ys yv nt yz n (nI (c + if th_v ds mk ((s + i) % 6) s = 0 then 1 else 0)) (nI (i + 1))) : wY_lost_4 post (nI s) dl ca sn bm dn wc nb ns ba ds mk vt bo ys yv nt yz (n + 1) (nI c) (nI i) := by
  refine br_f (nI_ge (b := 6) hi (by decide)) (yh_r hs hi (br_c (fun z => ?_) (fun z => ?_)))
  · rw [if_pos z] at h
    exact nm_r (nI_1 c) (nm_r (nI_1 i) h)
  · rw [if_neg z] at h
    exact nm_r (nI_1 i) h
theorem yl_r {post : Int32 → Prop} {s : Nat} (hs : s < 16) (h : post (lo_v ds mk s)) : wpY_lost post (dl, ca, sn, bm, dn, wc, nb, ns, ba, ds, mk, vt, bo, ys, yv, nt, yz) (nI s) := by
  have hc := cm_le (ds := ds) (mk := mk) (s := s) 6
  have he : wY_lost_4 post (nI s) dl ca sn bm dn wc nb ns ba ds mk vt bo ys yv nt yz 1 (nI (cm_y ds mk s 6)) (nI 6) := by
    rw [cm_e]
    unfold lo_v at h
    refine br_t (by decide) (pk_le (cm_x ds mk s 6) 2 (fun z => ?_) (fun z => ?_))
    · rw [if_pos z] at h; exact h
    · rw [if_neg (by omega)] at h; exact h
  exact ⟨7, yl_s (i := 0) (c := 0) hs (by decide) (yl_s (i := 1) hs (by decide) (yl_s (i := 2) hs (by decide) (yl_s (i := 3) hs (by decide) (yl_s (i := 4) hs (by decide) (yl_s (i := 5) hs (by decide) he)))))⟩
end
end
