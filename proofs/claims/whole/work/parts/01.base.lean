theorem pk_us {f : Nat → Int32} {k : Nat} {x : Int32} : upd f k x k = x := if_pos rfl
theorem pk_un {f : Nat → Int32} {k j : Nat} {x : Int32} (h : j ≠ k) : upd f k x j = f j := if_neg h
theorem pk_sub {a b : Nat} (h : b ≤ a) : nI a - nI b = nI (a - b) := by
  obtain ⟨c, rfl⟩ : ∃ c, a = c + b := ⟨a - b, by omega⟩
  rw [← nI_add, Int32.add_sub_cancel, Nat.add_sub_cancel]
theorem pk_m1 (n : Nat) : nI (n + 1) + (-1) = nI n := by
  rw [← nI_1, Int32.add_assoc, show (1 : Int32) + (-1) = 0 from rfl, Int32.add_zero]
theorem pk_mul (a b : Nat) : nI a * nI b = nI (a * b) := (Int32.ofNat_mul a b).symm
theorem pk_div {a d : Nat} (ha : a < 2 ^ 31) (h0 : 0 < d) (hd : d < 2 ^ 31) : nI a / nI d = nI (a / d) := by
  apply Int32.toInt_inj.mp
  rw [lg_idiv_nonneg (by rw [nI_toInt ha]; omega) (by rw [nI_toInt hd]; omega), nI_toInt ha, nI_toInt hd, nI_toInt (Nat.lt_of_le_of_lt (Nat.div_le_self a d) ha)]
  first | rfl | exact (Int.natCast_ediv _ _).symm
theorem pk_rem {a d : Nat} (ha : a < 2 ^ 31) (h0 : 0 < d) (hd : d < 2 ^ 31) : nI a - nI a / nI d * nI d = nI (a % d) := by
  rw [pk_div ha h0 hd, pk_mul, pk_sub (Nat.div_mul_le_self a d)]
  exact congrArg nI (by have := Nat.div_add_mod' a d; omega)
theorem pk_ix (x : Int32) {n : Nat} (hn : n < 2 ^ 31) : x < 0 ∨ nI n ≤ x ∨ ∃ j : Nat, j < n ∧ x = nI j := by
  by_cases h : x < 0
  · exact Or.inl h
  · obtain ⟨j, hj, rfl⟩ := nI_of h
    by_cases h2 : j < n
    · exact Or.inr (Or.inr ⟨j, h2, rfl⟩)
    · exact Or.inr (Or.inl (nI_le (by omega) hj))
theorem pk_le {x y : Int32} {A B : Prop} (a b : Nat) (f : a ≤ b → A) (g : b < a → B) (hx : x = nI a := by rfl) (hy : y = nI b := by rfl) (ha : a < 2 ^ 31 := by omega) (hb : b < 2 ^ 31 := by omega) : (x ≤ y → A) ∧ (¬ x ≤ y → B) := by
  subst hx hy
  rw [nI_leI ha hb]
  exact ⟨f, fun z => g (by omega)⟩
theorem pk_lt {x y : Int32} {A B : Prop} (a b : Nat) (f : a < b → A) (g : b ≤ a → B) (hx : x = nI a := by rfl) (hy : y = nI b := by rfl) (ha : a < 2 ^ 31 := by omega) (hb : b < 2 ^ 31 := by omega) : (x < y → A) ∧ (¬ x < y → B) := by
  subst hx hy
  rw [nI_ltI ha hb]
  exact ⟨f, fun z => g (by omega)⟩
theorem pk_eq {x y : Int32} {A B : Prop} (a b : Nat) (f : a = b → A) (g : a ≠ b → B) (hx : x = nI a := by rfl) (hy : y = nI b := by rfl) (ha : a < 2 ^ 31 := by omega) (hb : b < 2 ^ 31 := by omega) : (x = y → A) ∧ (¬ x = y → B) := by
  subst hx hy
  rw [nI_eq ha hb]
  exact ⟨f, g⟩
theorem pk_in {x : Int32} (n N : Nat) (h : n < N) (hx : x = nI n := by rfl) (hN : N < 2 ^ 31 := by omega) : vp_in x N := by
  subst hx
  exact vp_in_nI h hN
theorem pk_cl {x : Int32} (n : Nat) (hx : x = nI n := by rfl) (h : n < 2 ^ 31 := by omega) : x.toNatClampNeg = n := by
  subst hx
  exact nI_clamp h
theorem pk_tn {n : Nat} (h : n < 2 ^ 32) : (nI n).toBitVec.toNat = n := Nat.mod_eq_of_lt h
theorem pk_and (x : Int32) {m : Int32} (k : Nat) (hm : m.toBitVec.toNat = 2 ^ k - 1) : x &&& m = nI (x.toBitVec.toNat % 2 ^ k) := by
  apply Int32.toBitVec_inj.mp
  apply BitVec.eq_of_toNat_eq
  rw [Int32.toBitVec_and, BitVec.toNat_and, hm, Nat.and_two_pow_sub_one_eq_mod]
  show _ = (BitVec.ofNat 32 _).toNat
  rw [BitVec.toNat_ofNat]
  exact (Nat.mod_eq_of_lt (Nat.lt_of_le_of_lt (Nat.mod_le _ _) x.toBitVec.isLt)).symm
theorem pk_andE (x : Int32) {m : Int32} (k : Nat) (hm : m.toBitVec.toNat = 2 ^ k - 1) : ∃ j : Nat, j < 2 ^ k ∧ x &&& m = nI j := ⟨_, Nat.mod_lt _ (Nat.two_pow_pos k), pk_and x k hm⟩
/-! my own rows begin here -/
theorem zl_wl {post : Int32 → Prop} {p : Int32} (h : post (p / 9)) : wpX_withoutLast post p := ⟨by decide, h⟩
theorem zl_d9 {j : Nat} (h : j < 2 ^ 31) : nI j / 9 = nI (j / 9) := pk_div (d := 9) h (by decide) (by decide)
theorem zl_r9 {j : Nat} (h : j < 2 ^ 31) : nI j - nI j / 9 * 9 = nI (j % 9) := pk_rem (d := 9) h (by decide) (by decide)
theorem zl_wn {post : Int32 → Prop} {j : Nat} (hj : j < 2 ^ 31) (h : post (nI (j / 9))) : wpX_withoutLast post (nI j) := zl_wl (by rw [zl_d9 hj]; exact h)
theorem zl_nm1 {j : Nat} (h : j < 2 ^ 31) : ¬ nI j = -1 := by
  intro e
  have p := nI_pos h
  rw [e] at p
  exact p (by decide)
theorem zl_n9 : ¬ (9 : Int32) = 0 := by decide
/-- k is the number of a name of l labels -/
def zl_nm : Nat → Nat → Prop
  | 0, k => k = 0
  | l + 1, k => k % 9 ≠ 0 ∧ zl_nm l (k / 9)
theorem zl_nm_lt : ∀ (l k : Nat), zl_nm l k → k < 9 ^ l
  | 0, k, h => by
    have e : k = 0 := h
    subst e
    decide
  | l + 1, k, h => by
    have q := zl_nm_lt l (k / 9) h.2
    rw [Nat.pow_succ]
    omega
theorem zl_nm_lt4 {l k : Nat} (hl : l ≤ 4) (h : zl_nm l k) : k < 6561 := by
  have q := zl_nm_lt l k h
  have p : 9 ^ l ≤ 9 ^ 4 := Nat.pow_le_pow_right (by decide) hl
  have e : (9 : Nat) ^ 4 = 6561 := by decide
  omega
theorem zl_nm_pos {l k : Nat} (h : zl_nm (l + 1) k) : 0 < k := by
  have q : k % 9 ≠ 0 := h.1
  omega
theorem zl_nm_add {l k j : Nat} (h : zl_nm l k) (hj : j < 8) : zl_nm (l + 1) (k * 9 + j + 1) := by
  refine ⟨by omega, ?_⟩
  have e : (k * 9 + j + 1) / 9 = k := by omega
  rw [e]
  exact h
theorem zl_nm_back {l k : Nat} (h : zl_nm (l + 1) k) : zl_nm l (k / 9) := h.2
/-- labelCount counts the labels -/
theorem zl_lc {post : Int32 → Prop} : ∀ (l c k n : Nat), zl_nm l k → c + l ≤ 4 → l < n → post (nI (c + l)) → wX_labelCount_6 post n (nI c) (nI k) (nI c)
  | 0, c, k, n + 1, h, hc, _, hp => by
    have e : k = 0 := h
    subst e
    exact br_c (fun _ => hp) (fun _ => br_t nI_0 hp)
  | l + 1, c, k, n + 1, h, hc, hn, hp => by
    have k6 : k < 6561 := zl_nm_lt4 (l := l + 1) (by omega) h
    have h4 : ¬ (4 : Int32) ≤ nI c := nI_ge (b := 4) (by omega) (by decide)
    have h0 : ¬ nI k = 0 := nI_ne0 (zl_nm_pos h) (by omega)
    refine br_f h4 (br_f h0 (zl_wn (by omega) (nm_r (nI_1 c) (nm_r (nI_1 c) ?_))))
    exact zl_lc l (c + 1) (k / 9) n h.2 (by omega) (by omega) (by rw [show c + 1 + l = c + (l + 1) by omega]; exact hp)
theorem zl_labelCount {post : Int32 → Prop} {l k : Nat} (h : zl_nm l k) (hl : l ≤ 4) (hp : post (nI l)) : wpX_labelCount post (nI k) := by
  refine ⟨5, ?_⟩
  have q := zl_lc (post := post) l 0 k 5 h (by omega) (by omega) (by rw [Nat.zero_add]; exact hp)
  rw [nI_0] at q
  exact q
/-- both sides' tests for the number of a name: one answer -/
theorem zl_nnBig {post : Int32 → Prop} (hp : post 0) : ∀ (d c j n : Nat), c + d = 4 → 9 ^ d ≤ j → j < 2 ^ 31 → d < n → wX_isNumberOfName_4 post n (nI j) (nI c)
  | 0, c, j, n + 1, hc, h9, hj, _ => by
    have e : c = 4 := by omega
    subst e
    have h0 : ¬ nI j = 0 := nI_ne0 (by have : (9:Nat) ^ 0 = 1 := rfl; omega) hj
    exact br_t (nI_le (a := 4) (b := 4) (by omega) (by decide)) (br_f h0 hp)
  | d + 1, c, j, n + 1, hc, h9, hj, hn => by
    have p9 : 0 < 9 ^ d := Nat.pow_pos (by decide)
    rw [Nat.pow_succ] at h9
    have h4 : ¬ (4 : Int32) ≤ nI c := nI_ge (b := 4) (by omega) (by decide)
    have h0 : ¬ nI j = 0 := nI_ne0 (by omega) hj
    refine br_f h4 (br_f h0 ⟨zl_n9, ?_⟩)
    rw [zl_r9 hj]
    by_cases z : j % 9 = 0
    · rw [z, nI_0]
      exact br_f (by decide) hp
    · exact br_t (nI_lt (a := 0) (by omega) (by omega)) (zl_wn hj (nm_r (nI_1 c) (zl_nnBig hp d (c + 1) (j / 9) n (by omega) (by omega) (by omega) (by omega))))
theorem zl_nnSmall : ∀ (d c j : Nat), c + d = 4 → j < 9 ^ d → j < 6561 → ∃ r : Int32, (r = 0 ∨ r = 1) ∧ (∀ post : Int32 → Prop, post r → wX_isNumberOfName_4 post (d + 1) (nI j) (nI c)) ∧ (∀ post : Int32 → Prop, post r → wY_isName_17 post (d + 1) (nI j) (nI c))
  | 0, c, j, hc, h9, hj => by
    have e : c = 4 := by omega
    subst e
    have h1 : (9:Nat) ^ 0 = 1 := rfl
    have e : j = 0 := by omega
    subst e
    have h4 : (4 : Int32) ≤ nI 4 := nI_le (a := 4) (b := 4) (by omega) (by decide)
    exact ⟨1, Or.inr rfl, fun post hp => br_t h4 (br_t nI_0 hp), fun post hp => br_t h4 hp⟩
  | d + 1, c, j, hc, h9, hj => by
    have h4 : ¬ (4 : Int32) ≤ nI c := nI_ge (b := 4) (by omega) (by decide)
    by_cases j0 : j = 0
    · subst j0
      exact ⟨1, Or.inr rfl, fun post hp => br_f h4 (br_t nI_0 (br_t nI_0 hp)), fun post hp => br_f h4 (br_t (by rw [nI_0]; decide) hp)⟩
    · have h0 : ¬ nI j = 0 := nI_ne0 (by omega) (by omega)
      have h0' : ¬ nI j ≤ 0 := nI_nle (by omega) (by omega)
      by_cases z : j % 9 = 0
      · refine ⟨0, Or.inl rfl, fun post hp => br_f h4 (br_f h0 ⟨zl_n9, ?_⟩), fun post hp => br_f h4 (br_f h0' ⟨zl_n9, ?_⟩)⟩
        · rw [zl_r9 (by omega), z, nI_0]
          exact br_f (by decide) hp
        · rw [zl_r9 (by omega), z, nI_0]
          exact br_t rfl hp
      · rw [Nat.pow_succ] at h9
        obtain ⟨r, hr, hX, hY⟩ := zl_nnSmall d (c + 1) (j / 9) (by omega) (by omega) (by omega)
        refine ⟨r, hr, fun post hp => br_f h4 (br_f h0 ⟨zl_n9, ?_⟩), fun post hp => br_f h4 (br_f h0' ⟨zl_n9, ?_⟩)⟩
        · rw [zl_r9 (by omega)]
          exact br_t (nI_lt (a := 0) (by omega) (by omega)) (zl_wn (by omega) (nm_r (nI_1 c) (hX post hp)))
        · rw [zl_r9 (by omega)]
          exact br_f (nI_ne0 (by omega) (by omega)) ⟨zl_n9, nm_r (zl_d9 (by omega)) (nm_r (nI_1 c) (hY post hp))⟩
theorem zl_negRem {x : Int32} (hx : x < 0) : ¬ 0 < x - x / 9 * 9 := by
  rw [Int32.lt_iff_toInt_lt] at hx ⊢
  have e0 : (0 : Int32).toInt = 0 := by decide
  have e9 : (9 : Int32).toInt = 9 := by decide
  rw [e0] at hx ⊢
  have hl := Int32.le_toInt x
  have hd : (x / 9).toInt = x.toInt.tdiv 9 := by
    rw [Int32.toInt_div_of_ne_right _ _ (by decide), e9]
  rw [Int32.toInt_sub, Int32.toInt_mul, hd, e9]
  have b1 : x.toInt ≤ x.toInt.tdiv 9 * 9 ∧ x.toInt.tdiv 9 * 9 ≤ 0 := by
    have q := Int.mul_tdiv_add_tmod x.toInt 9
    have t : 0 ≤ (-x.toInt).tmod 9 := Int.tmod_nonneg 9 (by omega)
    rw [Int.neg_tmod] at t
    have t2 : (-x.toInt).tmod 9 < 9 := Int.tmod_lt_of_pos _ (by decide)
    rw [Int.neg_tmod] at t2
    have d0 : 0 ≤ (-x.toInt).tdiv 9 := Int.tdiv_nonneg (by omega) (by decide)
    rw [Int.neg_tdiv] at d0
    omega
  rw [Int.bmod_eq_of_le (n := x.toInt.tdiv 9 * 9) (by omega) (by omega), Int.bmod_eq_of_le (by omega) (by omega)]
  omega
theorem zl_isName (x : Int32) : ∃ r : Int32, (r = 0 ∨ (r = 1 ∧ ∃ j : Nat, j < 6561 ∧ x = nI j)) ∧ (∀ post : Int32 → Prop, post r → wpX_isNumberOfName post x) ∧ (∀ post : Int32 → Prop, post r → wpY_isName post x) := by
  by_cases hx : x < 0
  · refine ⟨0, Or.inl rfl, fun post hp => ⟨1, br_f (by decide) (br_f (fun e => by rw [e] at hx; exact absurd hx (by decide)) ⟨zl_n9, br_f (zl_negRem hx) hp⟩)⟩, fun post hp => br_t hx hp⟩
  · obtain ⟨j, hj, rfl⟩ := nI_of hx
    by_cases h6 : j < 6561
    · obtain ⟨r, hr, hX, hY⟩ := zl_nnSmall 4 0 j rfl h6 h6
      rw [nI_0] at hX hY
      refine ⟨r, ?_, fun post hp => ⟨_, hX post hp⟩, fun post hp => br_f hx (br_t (nI_lt (b := 6561) h6 (by decide)) ⟨_, hY post hp⟩)⟩
      rcases hr with rfl | rfl
      · exact Or.inl rfl
      · exact Or.inr ⟨rfl, j, h6, rfl⟩
    · refine ⟨0, Or.inl rfl, fun post hp => ⟨5, ?_⟩, fun post hp => br_f hx (br_f (nI_nlt (b := 6561) (by omega) hj) hp)⟩
      have e9 : (9 : Nat) ^ 4 = 6561 := by decide
      have q := zl_nnBig (post := post) hp 4 0 j 5 rfl (by omega) hj (by omega)
      rw [nI_0] at q
      exact q
