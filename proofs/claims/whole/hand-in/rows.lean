section
theorem pk_us {f : Nat → Int32} {k : Nat} {x : Int32} : upd f k x k = x := if_pos rfl
theorem pk_un {f : Nat → Int32} {k j : Nat} {x : Int32} (h : j ≠ k) : upd f k x j = f j := if_neg h
theorem pk_sub {a b : Nat} (h : b ≤ a) : nI a - nI b = nI (a - b) := by
  obtain ⟨c, rfl⟩ : ∃ c, a = c + b := ⟨a - b, by omega⟩
  rw [← nI_add, Int32.add_sub_cancel, Nat.add_sub_cancel]
theorem pk_m1 (n : Nat) : nI (n + 1) + (-1) = nI n := by
  rw [← nI_1, Int32.add_assoc, show (1 : Int32) + (-1) = 0 from rfl, Int32.add_zero]
theorem pk_mul (a b : Nat) : nI a * nI b = nI (a * b) := (Int32.ofNat_mul a b).symm
theorem pk_div {a d : Nat} (ha : a < 2 ^ 31) (h0 : 0 < d) (hd : d < 2 ^ 31) : nI a / nI d = nI (a / d) := by
  apply Int32.toInt_inj.mp
  rw [lg_idiv_nonneg (by rw [nI_toInt ha]; omega) (by rw [nI_toInt hd]; omega), nI_toInt ha, nI_toInt hd, nI_toInt (Nat.lt_of_le_of_lt (Nat.div_le_self a d) ha)]
  first | rfl | exact (Int.natCast_ediv _ _).symm
theorem pk_rem {a d : Nat} (ha : a < 2 ^ 31) (h0 : 0 < d) (hd : d < 2 ^ 31) : nI a - nI a / nI d * nI d = nI (a % d) := by
  rw [pk_div ha h0 hd, pk_mul, pk_sub (Nat.div_mul_le_self a d)]
  exact congrArg nI (by have := Nat.div_add_mod' a d; omega)
theorem pk_ix (x : Int32) {n : Nat} (hn : n < 2 ^ 31) : x < 0 ∨ nI n ≤ x ∨ ∃ j : Nat, j < n ∧ x = nI j := by
  by_cases h : x < 0
  · exact Or.inl h
  · obtain ⟨j, hj, rfl⟩ := nI_of h
    by_cases h2 : j < n
    · exact Or.inr (Or.inr ⟨j, h2, rfl⟩)
    · exact Or.inr (Or.inl (nI_le (by omega) hj))
theorem pk_le {x y : Int32} {A B : Prop} (a b : Nat) (f : a ≤ b → A) (g : b < a → B) (hx : x = nI a := by rfl) (hy : y = nI b := by rfl) (ha : a < 2 ^ 31 := by omega) (hb : b < 2 ^ 31 := by omega) : (x ≤ y → A) ∧ (¬ x ≤ y → B) := by
  subst hx hy
  rw [nI_leI ha hb]
  exact ⟨f, fun z => g (by omega)⟩
theorem pk_lt {x y : Int32} {A B : Prop} (a b : Nat) (f : a < b → A) (g : b ≤ a → B) (hx : x = nI a := by rfl) (hy : y = nI b := by rfl) (ha : a < 2 ^ 31 := by omega) (hb : b < 2 ^ 31 := by omega) : (x < y → A) ∧ (¬ x < y → B) := by
  subst hx hy
  rw [nI_ltI ha hb]
  exact ⟨f, fun z => g (by omega)⟩
theorem pk_eq {x y : Int32} {A B : Prop} (a b : Nat) (f : a = b → A) (g : a ≠ b → B) (hx : x = nI a := by rfl) (hy : y = nI b := by rfl) (ha : a < 2 ^ 31 := by omega) (hb : b < 2 ^ 31 := by omega) : (x = y → A) ∧ (¬ x = y → B) := by
  subst hx hy
  rw [nI_eq ha hb]
  exact ⟨f, g⟩
theorem pk_in {x : Int32} (n N : Nat) (h : n < N) (hx : x = nI n := by rfl) (hN : N < 2 ^ 31 := by omega) : vp_in x N := by
  subst hx
  exact vp_in_nI h hN
theorem pk_cl {x : Int32} (n : Nat) (hx : x = nI n := by rfl) (h : n < 2 ^ 31 := by omega) : x.toNatClampNeg = n := by
  subst hx
  exact nI_clamp h
theorem pk_tn {n : Nat} (h : n < 2 ^ 32) : (nI n).toBitVec.toNat = n := Nat.mod_eq_of_lt h
theorem pk_and (x : Int32) {m : Int32} (k : Nat) (hm : m.toBitVec.toNat = 2 ^ k - 1) : x &&& m = nI (x.toBitVec.toNat % 2 ^ k) := by
  apply Int32.toBitVec_inj.mp
  apply BitVec.eq_of_toNat_eq
  rw [Int32.toBitVec_and, BitVec.toNat_and, hm, Nat.and_two_pow_sub_one_eq_mod]
  show _ = (BitVec.ofNat 32 _).toNat
  rw [BitVec.toNat_ofNat]
  exact (Nat.mod_eq_of_lt (Nat.lt_of_le_of_lt (Nat.mod_le _ _) x.toBitVec.isLt)).symm
theorem pk_andE (x : Int32) {m : Int32} (k : Nat) (hm : m.toBitVec.toNat = 2 ^ k - 1) : ∃ j : Nat, j < 2 ^ k ∧ x &&& m = nI j := ⟨_, Nat.mod_lt _ (Nat.two_pow_pos k), pk_and x k hm⟩
/-! my own rows begin here -/
theorem zl_wl {post : Int32 → Prop} {p : Int32} (h : post (p / 9)) : wpX_withoutLast post p := ⟨by decide, h⟩
theorem zl_d9 {j : Nat} (h : j < 2 ^ 31) : nI j / 9 = nI (j / 9) := pk_div (d := 9) h (by decide) (by decide)
theorem zl_r9 {j : Nat} (h : j < 2 ^ 31) : nI j - nI j / 9 * 9 = nI (j % 9) := pk_rem (d := 9) h (by decide) (by decide)
theorem zl_wn {post : Int32 → Prop} {j : Nat} (hj : j < 2 ^ 31) (h : post (nI (j / 9))) : wpX_withoutLast post (nI j) := zl_wl (by rw [zl_d9 hj]; exact h)
theorem zl_nm1 {j : Nat} (h : j < 2 ^ 31) : ¬ nI j = -1 := by
  intro e
  have p := nI_pos h
  rw [e] at p
  exact p (by decide)
theorem zl_n9 : ¬ (9 : Int32) = 0 := by decide
/-- k is the number of a name of l labels -/
def zl_nm : Nat → Nat → Prop
  | 0, k => k = 0
  | l + 1, k => k % 9 ≠ 0 ∧ zl_nm l (k / 9)
theorem zl_nm_lt : ∀ (l k : Nat), zl_nm l k → k < 9 ^ l
  | 0, k, h => by
    have e : k = 0 := h
    subst e
    decide
  | l + 1, k, h => by
    have q := zl_nm_lt l (k / 9) h.2
    rw [Nat.pow_succ]
    omega
theorem zl_nm_lt4 {l k : Nat} (hl : l ≤ 4) (h : zl_nm l k) : k < 6561 := by
  have q := zl_nm_lt l k h
  have p : 9 ^ l ≤ 9 ^ 4 := Nat.pow_le_pow_right (by decide) hl
  have e : (9 : Nat) ^ 4 = 6561 := by decide
  omega
theorem zl_nm_pos {l k : Nat} (h : zl_nm (l + 1) k) : 0 < k := by
  have q : k % 9 ≠ 0 := h.1
  omega
theorem zl_nm_add {l k j : Nat} (h : zl_nm l k) (hj : j < 8) : zl_nm (l + 1) (k * 9 + j + 1) := by
  refine ⟨by omega, ?_⟩
  have e : (k * 9 + j + 1) / 9 = k := by omega
  rw [e]
  exact h
theorem zl_nm_back {l k : Nat} (h : zl_nm (l + 1) k) : zl_nm l (k / 9) := h.2
/-- labelCount counts the labels -/
theorem zl_lc {post : Int32 → Prop} : ∀ (l c k n : Nat), zl_nm l k → c + l ≤ 4 → l < n → post (nI (c + l)) → wX_labelCount_6 post n (nI c) (nI k) (nI c)
  | 0, c, k, n + 1, h, hc, _, hp => by
    have e : k = 0 := h
    subst e
    exact br_c (fun _ => hp) (fun _ => br_t nI_0 hp)
  | l + 1, c, k, n + 1, h, hc, hn, hp => by
    have k6 : k < 6561 := zl_nm_lt4 (l := l + 1) (by omega) h
    have h4 : ¬ (4 : Int32) ≤ nI c := nI_ge (b := 4) (by omega) (by decide)
    have h0 : ¬ nI k = 0 := nI_ne0 (zl_nm_pos h) (by omega)
    refine br_f h4 (br_f h0 (zl_wn (by omega) (nm_r (nI_1 c) (nm_r (nI_1 c) ?_))))
    exact zl_lc l (c + 1) (k / 9) n h.2 (by omega) (by omega) (by rw [show c + 1 + l = c + (l + 1) by omega]; exact hp)
theorem zl_labelCount {post : Int32 → Prop} {l k : Nat} (h : zl_nm l k) (hl : l ≤ 4) (hp : post (nI l)) : wpX_labelCount post (nI k) := by
  refine ⟨5, ?_⟩
  have q := zl_lc (post := post) l 0 k 5 h (by omega) (by omega) (by rw [Nat.zero_add]; exact hp)
  rw [nI_0] at q
  exact q
/-- both sides' tests for the number of a name: one answer -/
theorem zl_nnBig {post : Int32 → Prop} (hp : post 0) : ∀ (d c j n : Nat), c + d = 4 → 9 ^ d ≤ j → j < 2 ^ 31 → d < n → wX_isNumberOfName_4 post n (nI j) (nI c)
  | 0, c, j, n + 1, hc, h9, hj, _ => by
    have e : c = 4 := by omega
    subst e
    have h0 : ¬ nI j = 0 := nI_ne0 (by have : (9:Nat) ^ 0 = 1 := rfl; omega) hj
    exact br_t (nI_le (a := 4) (b := 4) (by omega) (by decide)) (br_f h0 hp)
  | d + 1, c, j, n + 1, hc, h9, hj, hn => by
    have p9 : 0 < 9 ^ d := Nat.pow_pos (by decide)
    rw [Nat.pow_succ] at h9
    have h4 : ¬ (4 : Int32) ≤ nI c := nI_ge (b := 4) (by omega) (by decide)
    have h0 : ¬ nI j = 0 := nI_ne0 (by omega) hj
    refine br_f h4 (br_f h0 ⟨zl_n9, ?_⟩)
    rw [zl_r9 hj]
    by_cases z : j % 9 = 0
    · rw [z, nI_0]
      exact br_f (by decide) hp
    · exact br_t (nI_lt (a := 0) (by omega) (by omega)) (zl_wn hj (nm_r (nI_1 c) (zl_nnBig hp d (c + 1) (j / 9) n (by omega) (by omega) (by omega) (by omega))))
theorem zl_nnSmall : ∀ (d c j : Nat), c + d = 4 → j < 9 ^ d → j < 6561 → ∃ r : Int32, (r = 0 ∨ r = 1) ∧ (∀ post : Int32 → Prop, post r → wX_isNumberOfName_4 post (d + 1) (nI j) (nI c)) ∧ (∀ post : Int32 → Prop, post r → wY_isName_17 post (d + 1) (nI j) (nI c))
  | 0, c, j, hc, h9, hj => by
    have e : c = 4 := by omega
    subst e
    have h1 : (9:Nat) ^ 0 = 1 := rfl
    have e : j = 0 := by omega
    subst e
    have h4 : (4 : Int32) ≤ nI 4 := nI_le (a := 4) (b := 4) (by omega) (by decide)
    exact ⟨1, Or.inr rfl, fun post hp => br_t h4 (br_t nI_0 hp), fun post hp => br_t h4 hp⟩
  | d + 1, c, j, hc, h9, hj => by
    have h4 : ¬ (4 : Int32) ≤ nI c := nI_ge (b := 4) (by omega) (by decide)
    by_cases j0 : j = 0
    · subst j0
      exact ⟨1, Or.inr rfl, fun post hp => br_f h4 (br_t nI_0 (br_t nI_0 hp)), fun post hp => br_f h4 (br_t (by rw [nI_0]; decide) hp)⟩
    · have h0 : ¬ nI j = 0 := nI_ne0 (by omega) (by omega)
      have h0' : ¬ nI j ≤ 0 := nI_nle (by omega) (by omega)
      by_cases z : j % 9 = 0
      · refine ⟨0, Or.inl rfl, fun post hp => br_f h4 (br_f h0 ⟨zl_n9, ?_⟩), fun post hp => br_f h4 (br_f h0' ⟨zl_n9, ?_⟩)⟩
        · rw [zl_r9 (by omega), z, nI_0]
          exact br_f (by decide) hp
        · rw [zl_r9 (by omega), z, nI_0]
          exact br_t rfl hp
      · rw [Nat.pow_succ] at h9
        obtain ⟨r, hr, hX, hY⟩ := zl_nnSmall d (c + 1) (j / 9) (by omega) (by omega) (by omega)
        refine ⟨r, hr, fun post hp => br_f h4 (br_f h0 ⟨zl_n9, ?_⟩), fun post hp => br_f h4 (br_f h0' ⟨zl_n9, ?_⟩)⟩
        · rw [zl_r9 (by omega)]
          exact br_t (nI_lt (a := 0) (by omega) (by omega)) (zl_wn (by omega) (nm_r (nI_1 c) (hX post hp)))
        · rw [zl_r9 (by omega)]
          exact br_f (nI_ne0 (by omega) (by omega)) ⟨zl_n9, nm_r (zl_d9 (by omega)) (nm_r (nI_1 c) (hY post hp))⟩
theorem zl_negRem {x : Int32} (hx : x < 0) : ¬ 0 < x - x / 9 * 9 := by
  rw [Int32.lt_iff_toInt_lt] at hx ⊢
  have e0 : (0 : Int32).toInt = 0 := by decide
  have e9 : (9 : Int32).toInt = 9 := by decide
  rw [e0] at hx ⊢
  have hl := Int32.le_toInt x
  have hd : (x / 9).toInt = x.toInt.tdiv 9 := by
    rw [Int32.toInt_div_of_ne_right _ _ (by decide), e9]
  rw [Int32.toInt_sub, Int32.toInt_mul, hd, e9]
  have b1 : x.toInt ≤ x.toInt.tdiv 9 * 9 ∧ x.toInt.tdiv 9 * 9 ≤ 0 := by
    have q := Int.mul_tdiv_add_tmod x.toInt 9
    have t : 0 ≤ (-x.toInt).tmod 9 := Int.tmod_nonneg 9 (by omega)
    rw [Int.neg_tmod] at t
    have t2 : (-x.toInt).tmod 9 < 9 := Int.tmod_lt_of_pos _ (by decide)
    rw [Int.neg_tmod] at t2
    have d0 : 0 ≤ (-x.toInt).tdiv 9 := Int.tdiv_nonneg (by omega) (by decide)
    rw [Int.neg_tdiv] at d0
    omega
  rw [Int.bmod_eq_of_le (n := x.toInt.tdiv 9 * 9) (by omega) (by omega), Int.bmod_eq_of_le (by omega) (by omega)]
  omega
theorem zl_isName (x : Int32) : ∃ r : Int32, (r = 0 ∨ (r = 1 ∧ ∃ j : Nat, j < 6561 ∧ x = nI j)) ∧ (∀ post : Int32 → Prop, post r → wpX_isNumberOfName post x) ∧ (∀ post : Int32 → Prop, post r → wpY_isName post x) := by
  by_cases hx : x < 0
  · refine ⟨0, Or.inl rfl, fun post hp => ⟨1, br_f (by decide) (br_f (fun e => by rw [e] at hx; exact absurd hx (by decide)) ⟨zl_n9, br_f (zl_negRem hx) hp⟩)⟩, fun post hp => br_t hx hp⟩
  · obtain ⟨j, hj, rfl⟩ := nI_of hx
    by_cases h6 : j < 6561
    · obtain ⟨r, hr, hX, hY⟩ := zl_nnSmall 4 0 j rfl h6 h6
      rw [nI_0] at hX hY
      refine ⟨r, ?_, fun post hp => ⟨_, hX post hp⟩, fun post hp => br_f hx (br_t (nI_lt (b := 6561) h6 (by decide)) ⟨_, hY post hp⟩)⟩
      rcases hr with rfl | rfl
      · exact Or.inl rfl
      · exact Or.inr ⟨rfl, j, h6, rfl⟩
    · refine ⟨0, Or.inl rfl, fun post hp => ⟨5, ?_⟩, fun post hp => br_f hx (br_f (nI_nlt (b := 6561) (by omega) hj) hp)⟩
      have e9 : (9 : Nat) ^ 4 = 6561 := by decide
      have q := zl_nnBig (post := post) hp 4 0 j 5 rfl (by omega) hj (by omega)
      rw [nI_0] at q
      exact q
end
section
/-! the loops over the entries: each side against one pure count -/
/-- how many of the first entries have the name and the sort -/
def zl_c (N S : Nat → Int32) (n s : Int32) : Nat → Nat
  | 0 => 0
  | i + 1 => zl_c N S n s i + (if N i = n ∧ S i = s then 1 else 0)
/-- how many of them have a value below v -/
def zl_l (N S V : Nat → Int32) (n s v : Int32) : Nat → Nat
  | 0 => 0
  | i + 1 => zl_l N S V n s v i + (if N i = n ∧ S i = s ∧ ¬ v ≤ V i then 1 else 0)
/-- the value that has x lesser ones, from entry i on -/
def zl_rv (N S V : Nat → Int32) (n s x : Int32) (h : Nat) : Nat → Nat → Int32
  | 0, _ => 0
  | d + 1, i => if N i = n ∧ S i = s ∧ nI (zl_l N S V n s (V i) h) = x then V i else zl_rv N S V n s x h d (i + 1)
section
variable {N S V : Nat → Int32} {n s v x : Int32} {h : Nat}
theorem zl_c_y {i : Nat} (hn : N i = n) (hs : S i = s) : zl_c N S n s (i + 1) = zl_c N S n s i + 1 := by
  show _ + (if _ then 1 else 0) = _
  rw [if_pos ⟨hn, hs⟩]
theorem zl_c_n {i : Nat} (hn : ¬ (N i = n ∧ S i = s)) : zl_c N S n s (i + 1) = zl_c N S n s i := by
  show _ + (if _ then 1 else 0) = _
  rw [if_neg hn]
  exact Nat.add_zero _
theorem zl_c_le (i : Nat) : zl_c N S n s i ≤ i := by
  induction i with
  | zero => exact Nat.le_refl 0
  | succ i ih =>
    by_cases q : N i = n ∧ S i = s
    · rw [zl_c_y q.1 q.2]; omega
    · rw [zl_c_n q]; omega
theorem zl_c_mono {i j : Nat} (hij : i ≤ j) : zl_c N S n s i ≤ zl_c N S n s j := by
  induction j with
  | zero => rw [show i = 0 by omega]; exact Nat.le_refl _
  | succ j ih =>
    by_cases e : i = j + 1
    · rw [e]; exact Nat.le_refl _
    · have q := ih (by omega)
      by_cases m : N j = n ∧ S j = s
      · rw [zl_c_y m.1 m.2]; omega
      · rw [zl_c_n m]; omega
theorem zl_c_pos {e : Nat} (he : e < h) (hn : N e = n) (hs : S e = s) : 0 < zl_c N S n s h := by
  have q := zl_c_mono (N := N) (S := S) (n := n) (s := s) (i := e + 1) (j := h) (by omega)
  rw [zl_c_y hn hs] at q
  omega
theorem zl_c_two {i j : Nat} (hij : i < j) (hj : j < h) (ni : N i = n) (si : S i = s) (nj : N j = n) (sj : S j = s) : 2 ≤ zl_c N S n s h := by
  have q := zl_c_pos (h := j) hij ni si
  have p := zl_c_mono (N := N) (S := S) (n := n) (s := s) (i := j + 1) (j := h) (by omega)
  rw [zl_c_y nj sj] at p
  omega
theorem zl_uni (hu : zl_c N S n s h ≤ 1) {i j : Nat} (hi : i < h) (hj : j < h) (ni : N i = n) (si : S i = s) (nj : N j = n) (sj : S j = s) : i = j := by
  rcases Nat.lt_trichotomy i j with q | q | q
  · have := zl_c_two q hj ni si nj sj; omega
  · exact q
  · have := zl_c_two q hi nj sj ni si; omega
theorem zl_l_y {i : Nat} (hn : N i = n) (hs : S i = s) (hv : ¬ v ≤ V i) : zl_l N S V n s v (i + 1) = zl_l N S V n s v i + 1 := by
  show _ + (if _ then 1 else 0) = _
  rw [if_pos ⟨hn, hs, hv⟩]
theorem zl_l_n {i : Nat} (hn : ¬ (N i = n ∧ S i = s ∧ ¬ v ≤ V i)) : zl_l N S V n s v (i + 1) = zl_l N S V n s v i := by
  show _ + (if _ then 1 else 0) = _
  rw [if_neg hn]
  exact Nat.add_zero _
theorem zl_l_0 : ∀ (i : Nat), (∀ j, j < i → N j = n → S j = s → v ≤ V j) → zl_l N S V n s v i = 0
  | 0, _ => rfl
  | i + 1, H => by
    rw [zl_l_n (fun q => q.2.2 (H i (by omega) q.1 q.2.1))]
    exact zl_l_0 i (fun j hj => H j (by omega))
theorem zl_l_u (hu : zl_c N S n s h ≤ 1) {e : Nat} (he : e < h) (hn : N e = n) (hs : S e = s) : zl_l N S V n s (V e) h = 0 :=
  zl_l_0 h (fun j hj nj sj => by rw [zl_uni hu hj he nj sj hn hs]; exact Int32.le_refl _)
theorem zl_rv_u (hu : zl_c N S n s h ≤ 1) {e : Nat} (he : e < h) (hn : N e = n) (hs : S e = s) : ∀ (d i : Nat), i + d = h → i ≤ e → zl_rv N S V n s 0 h d i = V e
  | 0, i, hd, hi => by omega
  | d + 1, i, hd, hi => by
    by_cases q : N i = n ∧ S i = s
    · have ei : i = e := zl_uni hu (by omega) he q.1 q.2 hn hs
      subst ei
      exact if_pos ⟨hn, hs, by rw [zl_l_u hu he hn hs]; exact nI_0⟩
    · have ne : i ≠ e := fun z => q (by rw [z]; exact ⟨hn, hs⟩)
      exact (if_neg (fun z => q ⟨z.1, z.2.1⟩)).trans (zl_rv_u hu he hn hs d (i + 1) (by omega) (by omega))
theorem zl_rv_0 (hu : zl_c N S n s h ≤ 1) (hx : ¬ x = 0) : ∀ (d i : Nat), i + d = h → zl_rv N S V n s x h d i = 0
  | 0, i, hd => rfl
  | d + 1, i, hd => by
    refine (if_neg (fun z => ?_)).trans (zl_rv_0 hu hx d (i + 1) (by omega))
    have q := z.2.2
    rw [zl_l_u hu (by omega) z.1 z.2.1, nI_0] at q
    exact hx q.symm
/-- countEntries -/
theorem zl_xc {post : Int32 → Prop} {fk la lp lr : Int32} (hh : h ≤ 24) (hp : post (nI (zl_c N S n s h))) : ∀ (d i m : Nat), i + d = h → d < m → wX_countEntries_5 post n s fk (nI h) la lp lr N S V m (nI (zl_c N S n s i)) (nI i)
  | 0, i, m + 1, hd, _ => by
    have e : i = h := by omega
    subst e
    exact br_t (nI_le (by omega) (by omega)) hp
  | d + 1, i, m + 1, hd, hm => by
    have q := zl_xc (fk := fk) (la := la) (lp := lp) (lr := lr) hh hp d (i + 1) m (by omega) (by omega)
    have hc : (nI i).toNatClampNeg = i := nI_clamp (by omega)
    have hin : vp_in (nI i) 24 := vp_in_nI (by omega) (by omega)
    refine br_f (nI_ge (by omega) (by omega)) ⟨hin, ?_⟩
    rw [hc]
    by_cases h1 : N i = n
    · refine br_t h1 ⟨hin, ?_⟩
      by_cases h2 : S i = s
      · rw [zl_c_y h1 h2] at q
        exact br_t h2 (nm_r (nI_1 _) (nm_r (nI_1 _) q))
      · rw [zl_c_n (fun z => h2 z.2)] at q
        exact br_f h2 (nm_r (nI_1 _) q)
    · rw [zl_c_n (fun z => h1 z.1)] at q
      exact br_f h1 (nm_r (nI_1 _) q)
theorem zl_X_count {post : Int32 → Prop} {fk la lp lr : Int32} (hh : h ≤ 24) (hp : post (nI (zl_c N S n s h))) : wpX_countEntries post (fk, nI h, la, lp, lr, N, S, V) n s := by
  have q := zl_xc (V := V) (fk := fk) (la := la) (lp := lp) (lr := lr) hh hp h 0 (h + 1) (by omega) (by omega)
  exact ⟨h + 1, q⟩
/-- count -/
theorem zl_yc {post : Int32 → Prop} {fk lb pl ro : Int32} (hh : h ≤ 24) (hp : post (nI (zl_c N S n s h))) : ∀ (d i m : Nat), i + d = h → d < m → wY_count_5 post n s (nI h) fk lb pl ro N S V m (nI (zl_c N S n s i)) (nI i)
  | 0, i, m + 1, hd, _ => by
    have e : i = h := by omega
    subst e
    exact br_t (nI_le (by omega) (by omega)) hp
  | d + 1, i, m + 1, hd, hm => by
    have q := zl_yc (fk := fk) (lb := lb) (pl := pl) (ro := ro) hh hp d (i + 1) m (by omega) (by omega)
    have hc : (nI i).toNatClampNeg = i := nI_clamp (by omega)
    have hin : vp_in (nI i) 24 := vp_in_nI (by omega) (by omega)
    refine br_f (nI_ge (by omega) (by omega)) ⟨hin, ?_⟩
    rw [hc]
    by_cases h1 : N i = n
    · refine br_t h1 ⟨hin, ?_⟩
      by_cases h2 : S i = s
      · rw [zl_c_y h1 h2] at q
        exact br_t h2 (nm_r (nI_1 _) (nm_r (nI_1 _) q))
      · rw [zl_c_n (fun z => h2 z.2)] at q
        exact br_f h2 (nm_r (nI_1 _) q)
    · rw [zl_c_n (fun z => h1 z.1)] at q
      exact br_f h1 (nm_r (nI_1 _) q)
theorem zl_Y_count {post : Int32 → Prop} {fk lb pl ro : Int32} (hh : h ≤ 24) (hp : post (nI (zl_c N S n s h))) : wpY_count post (nI h, fk, lb, pl, ro, N, S, V) n s := by
  have q := zl_yc (V := V) (fk := fk) (lb := lb) (pl := pl) (ro := ro) hh hp h 0 (h + 1) (by omega) (by omega)
  exact ⟨h + 1, q⟩
/-- findSort: none, or an entry -/
theorem zl_xs {post : Int32 → Prop} {fk la lp lr : Int32} (hh : h ≤ 24) (hn : zl_c N S n s h = 0 → post (-1)) (hf : ∀ e, e < h → N e = n → S e = s → post (nI e)) : ∀ (d i m : Nat), i + d = h → d < m → zl_c N S n s i = 0 → wX_findSort_2 post n s fk (nI h) la lp lr N S V m (nI i)
  | 0, i, m + 1, hd, _, h0 => by
    have e : i = h := by omega
    subst e
    exact br_t (nI_le (by omega) (by omega)) (hn h0)
  | d + 1, i, m + 1, hd, hm, h0 => by
    have q := zl_xs (fk := fk) (la := la) (lp := lp) (lr := lr) hh hn hf d (i + 1) m (by omega) (by omega)
    have hc : (nI i).toNatClampNeg = i := nI_clamp (by omega)
    have hin : vp_in (nI i) 24 := vp_in_nI (by omega) (by omega)
    refine br_f (nI_ge (by omega) (by omega)) ⟨hin, ?_⟩
    rw [hc]
    by_cases h1 : N i = n
    · refine br_t h1 ⟨hin, ?_⟩
      by_cases h2 : S i = s
      · exact br_t h2 (hf i (by omega) h1 h2)
      · exact br_f h2 (nm_r (nI_1 _) (q (by rw [zl_c_n (fun z => h2 z.2)]; exact h0)))
    · exact br_f h1 (nm_r (nI_1 _) (q (by rw [zl_c_n (fun z => h1 z.1)]; exact h0)))
theorem zl_X_sort {post : Int32 → Prop} {fk la lp lr : Int32} (hh : h ≤ 24) (hn : zl_c N S n s h = 0 → post (-1)) (hf : ∀ e, e < h → N e = n → S e = s → post (nI e)) : wpX_findSort post (fk, nI h, la, lp, lr, N, S, V) n s :=
  ⟨h + 1, zl_xs (V := V) (fk := fk) (la := la) (lp := lp) (lr := lr) hh hn hf h 0 (h + 1) (by omega) (by omega) rfl⟩
/-- findEntry and find in lockstep -/
theorem zl_fe (hh : h ≤ 24) : ∀ (d i : Nat), i + d = h → ∃ r : Int32, (r = -1 ∨ ∃ e : Nat, e < h ∧ r = nI e ∧ N e = n ∧ S e = s ∧ V e = v) ∧ (∀ (post : Int32 → Prop) (fk la lp lr : Int32), post r → wX_findEntry_3 post n s v fk (nI h) la lp lr N S V (d + 1) (nI i)) ∧ (∀ (post : Int32 → Prop) (fk lb pl ro : Int32), post r → wY_find_3 post n s v (nI h) fk lb pl ro N S V (d + 1) (nI i))
  | 0, i, hd => by
    have e : i = h := by omega
    subst e
    have hx : nI i ≤ nI i := nI_le (by omega) (by omega)
    exact ⟨-1, Or.inl rfl, fun _ _ _ _ _ hp => br_t hx hp, fun _ _ _ _ _ hp => br_t hx hp⟩
  | d + 1, i, hd => by
    obtain ⟨r, hr, hX, hY⟩ := zl_fe hh d (i + 1) (by omega)
    have hc : (nI i).toNatClampNeg = i := nI_clamp (by omega)
    have hin : vp_in (nI i) 24 := vp_in_nI (by omega) (by omega)
    have hg : ¬ nI h ≤ nI i := nI_ge (by omega) (by omega)
    by_cases h1 : N i = n
    · by_cases h2 : S i = s
      · by_cases h3 : V i = v
        · refine ⟨nI i, Or.inr ⟨i, by omega, rfl, h1, h2, h3⟩, fun post fk la lp lr hp => br_f hg ⟨hin, ?_⟩, fun post fk lb pl ro hp => br_f hg ⟨hin, ?_⟩⟩
          · rw [hc]; exact br_t h1 ⟨hin, br_t h2 ⟨hin, br_t h3 hp⟩⟩
          · rw [hc]; exact br_t h1 ⟨hin, br_t h2 ⟨hin, br_t h3 hp⟩⟩
        · refine ⟨r, hr, fun post fk la lp lr hp => br_f hg ⟨hin, ?_⟩, fun post fk lb pl ro hp => br_f hg ⟨hin, ?_⟩⟩
          · rw [hc]; exact br_t h1 ⟨hin, br_t h2 ⟨hin, br_f h3 (nm_r (nI_1 _) (hX post fk la lp lr hp))⟩⟩
          · rw [hc]; exact br_t h1 ⟨hin, br_t h2 ⟨hin, br_f h3 (nm_r (nI_1 _) (hY post fk lb pl ro hp))⟩⟩
      · refine ⟨r, hr, fun post fk la lp lr hp => br_f hg ⟨hin, ?_⟩, fun post fk lb pl ro hp => br_f hg ⟨hin, ?_⟩⟩
        · rw [hc]; exact br_t h1 ⟨hin, br_f h2 (nm_r (nI_1 _) (hX post fk la lp lr hp))⟩
        · rw [hc]; exact br_t h1 ⟨hin, br_f h2 (nm_r (nI_1 _) (hY post fk lb pl ro hp))⟩
    · refine ⟨r, hr, fun post fk la lp lr hp => br_f hg ⟨hin, ?_⟩, fun post fk lb pl ro hp => br_f hg ⟨hin, ?_⟩⟩
      · rw [hc]; exact br_f h1 (nm_r (nI_1 _) (hX post fk la lp lr hp))
      · rw [hc]; exact br_f h1 (nm_r (nI_1 _) (hY post fk lb pl ro hp))
theorem zl_find (N S V : Nat → Int32) (n s v : Int32) (hh : h ≤ 24) : ∃ r : Int32, (r = -1 ∨ ∃ e : Nat, e < h ∧ r = nI e ∧ N e = n ∧ S e = s ∧ V e = v) ∧ (∀ (post : Int32 → Prop) (fk la lp lr : Int32), post r → wpX_findEntry post (fk, nI h, la, lp, lr, N, S, V) n s v) ∧ (∀ (post : Int32 → Prop) (fk lb pl ro : Int32), post r → wpY_find post (nI h, fk, lb, pl, ro, N, S, V) n s v) := by
  obtain ⟨r, hr, hX, hY⟩ := zl_fe (N := N) (S := S) (V := V) (n := n) (s := s) (v := v) hh h 0 (by omega)
  exact ⟨r, hr, fun post fk la lp lr hp => ⟨_, hX post fk la lp lr hp⟩, fun post fk lb pl ro hp => ⟨_, hY post fk lb pl ro hp⟩⟩
/-- countLesser -/
theorem zl_xl {post : Int32 → Prop} {fk la lp lr : Int32} (hh : h ≤ 24) (hp : post (nI (zl_l N S V n s v h))) : ∀ (d i m : Nat), i + d = h → d < m → wX_countLesser_6 post n s v fk (nI h) la lp lr N S V m (nI (zl_l N S V n s v i)) (nI i)
  | 0, i, m + 1, hd, _ => by
    have e : i = h := by omega
    subst e
    exact br_t (nI_le (by omega) (by omega)) hp
  | d + 1, i, m + 1, hd, hm => by
    have q := zl_xl (fk := fk) (la := la) (lp := lp) (lr := lr) hh hp d (i + 1) m (by omega) (by omega)
    have hc : (nI i).toNatClampNeg = i := nI_clamp (by omega)
    have hin : vp_in (nI i) 24 := vp_in_nI (by omega) (by omega)
    refine br_f (nI_ge (by omega) (by omega)) ⟨hin, ?_⟩
    rw [hc]
    by_cases h1 : N i = n
    · refine br_t h1 ⟨hin, ?_⟩
      by_cases h2 : S i = s
      · refine br_t h2 ⟨hin, ?_⟩
        by_cases h3 : v ≤ V i
        · rw [zl_l_n (fun z => z.2.2 h3)] at q
          exact br_t h3 (nm_r (nI_1 _) q)
        · rw [zl_l_y h1 h2 h3] at q
          exact br_f h3 (nm_r (nI_1 _) (nm_r (nI_1 _) q))
      · rw [zl_l_n (fun z => h2 z.2.1)] at q
        exact br_f h2 (nm_r (nI_1 _) q)
    · rw [zl_l_n (fun z => h1 z.1)] at q
      exact br_f h1 (nm_r (nI_1 _) q)
theorem zl_X_less {post : Int32 → Prop} {fk la lp lr : Int32} (hh : h ≤ 24) (hp : post (nI (zl_l N S V n s v h))) : wpX_countLesser post (fk, nI h, la, lp, lr, N, S, V) n s v :=
  ⟨h + 1, zl_xl (fk := fk) (la := la) (lp := lp) (lr := lr) hh hp h 0 (h + 1) (by omega) (by omega)⟩
/-- the inner loop of valueOf -/
theorem zl_yl {post J : Int32 → Prop} {fk lb pl ro : Int32} {e : Nat} (he : e < h) (hh : h ≤ 24) (hp : nI (zl_l N S V n s (V e) h) = x → post (V e)) (hj : ¬ nI (zl_l N S V n s (V e) h) = x → J (nI (e + 1))) : ∀ (d i m : Nat), i + d = h → d < m → wY_valueOf_40 post J n s x (nI e) (nI h) fk lb pl ro N S V m (nI (zl_l N S V n s (V e) i)) (nI i)
  | 0, i, m + 1, hd, _ => by
    have e0 : i = h := by omega
    subst e0
    have hc : (nI e).toNatClampNeg = e := nI_clamp (by omega)
    have hin : vp_in (nI e) 24 := vp_in_nI (by omega) (by omega)
    refine br_t (nI_le (by omega) (by omega)) ?_
    rw [hc]
    exact br_c (fun z => ⟨hin, hp z⟩) (fun z => nm_r (nI_1 _) (hj z))
  | d + 1, i, m + 1, hd, hm => by
    have q := zl_yl (fk := fk) (lb := lb) (pl := pl) (ro := ro) he hh hp hj d (i + 1) m (by omega) (by omega)
    have hc : (nI i).toNatClampNeg = i := nI_clamp (by omega)
    have hce : (nI e).toNatClampNeg = e := nI_clamp (by omega)
    have hin : vp_in (nI i) 24 := vp_in_nI (by omega) (by omega)
    have hine : vp_in (nI e) 24 := vp_in_nI (by omega) (by omega)
    refine br_f (nI_ge (by omega) (by omega)) ⟨hin, ?_⟩
    rw [hc, hce]
    by_cases h1 : N i = n
    · refine br_t h1 ⟨hin, ?_⟩
      by_cases h2 : S i = s
      · refine br_t h2 ⟨hin, hine, ?_⟩
        by_cases h3 : V e ≤ V i
        · rw [zl_l_n (fun z => z.2.2 h3)] at q
          exact br_t h3 (nm_r (nI_1 _) q)
        · rw [zl_l_y h1 h2 h3] at q
          exact br_f h3 (nm_r (nI_1 _) (nm_r (nI_1 _) q))
      · rw [zl_l_n (fun z => h2 z.2.1)] at q
        exact br_f h2 (nm_r (nI_1 _) q)
    · rw [zl_l_n (fun z => h1 z.1)] at q
      exact br_f h1 (nm_r (nI_1 _) q)
/-- rankedValue -/
theorem zl_xr {post : Int32 → Prop} {fk la lp lr : Int32} (hh : h ≤ 24) : ∀ (d i : Nat), i + d = h → post (zl_rv N S V n s x h d i) → wX_rankedValue_3 post n s x fk (nI h) la lp lr N S V (d + 1) (nI i)
  | 0, i, hd, hp => by
    have e : i = h := by omega
    subst e
    exact br_t (nI_le (by omega) (by omega)) hp
  | d + 1, i, hd, hp => by
    have q := zl_xr (post := post) (fk := fk) (la := la) (lp := lp) (lr := lr) hh d (i + 1) (by omega)
    have hc : (nI i).toNatClampNeg = i := nI_clamp (by omega)
    have hin : vp_in (nI i) 24 := vp_in_nI (by omega) (by omega)
    have hp' : post (if N i = n ∧ S i = s ∧ nI (zl_l N S V n s (V i) h) = x then V i else zl_rv N S V n s x h d (i + 1)) := hp
    refine br_f (nI_ge (by omega) (by omega)) ⟨hin, ?_⟩
    rw [hc]
    by_cases h1 : N i = n
    · refine br_t h1 ⟨hin, ?_⟩
      by_cases h2 : S i = s
      · refine br_t h2 ⟨hin, zl_X_less hh ?_⟩
        by_cases h3 : nI (zl_l N S V n s (V i) h) = x
        · rw [if_pos ⟨h1, h2, h3⟩] at hp'
          exact br_t h3 ⟨hin, hp'⟩
        · rw [if_neg (fun z => h3 z.2.2)] at hp'
          exact br_f h3 (nm_r (nI_1 _) (q hp'))
      · rw [if_neg (fun z => h2 z.2.1)] at hp'
        exact br_f h2 (nm_r (nI_1 _) (q hp'))
    · rw [if_neg (fun z => h1 z.1)] at hp'
      exact br_f h1 (nm_r (nI_1 _) (q hp'))
theorem zl_X_rank {post : Int32 → Prop} {fk la lp lr : Int32} (hh : h ≤ 24) (hp : post (zl_rv N S V n s x h h 0)) : wpX_rankedValue post (fk, nI h, la, lp, lr, N, S, V) n s x :=
  ⟨h + 1, zl_xr (fk := fk) (la := la) (lp := lp) (lr := lr) hh h 0 (by omega) hp⟩
/-- valueOf -/
theorem zl_yr {post : Int32 → Prop} {fk lb pl ro : Int32} (hh : h ≤ 24) : ∀ (d i : Nat), i + d = h → post (zl_rv N S V n s x h d i) → wY_valueOf_3 post n s x (nI h) fk lb pl ro N S V (d + 1) (nI i)
  | 0, i, hd, hp => by
    have e : i = h := by omega
    subst e
    exact br_t (nI_le (by omega) (by omega)) hp
  | d + 1, i, hd, hp => by
    have q := zl_yr (post := post) (fk := fk) (lb := lb) (pl := pl) (ro := ro) hh d (i + 1) (by omega)
    have hc : (nI i).toNatClampNeg = i := nI_clamp (by omega)
    have hin : vp_in (nI i) 24 := vp_in_nI (by omega) (by omega)
    have hp' : post (if N i = n ∧ S i = s ∧ nI (zl_l N S V n s (V i) h) = x then V i else zl_rv N S V n s x h d (i + 1)) := hp
    refine br_f (nI_ge (by omega) (by omega)) ⟨hin, ?_⟩
    rw [hc]
    by_cases h1 : N i = n
    · refine br_t h1 ⟨hin, ?_⟩
      by_cases h2 : S i = s
      · refine br_t h2 ⟨h + 1, ?_⟩
        refine zl_yl (by omega) hh (fun h3 => ?_) (fun h3 => ?_) h 0 (h + 1) (by omega) (by omega)
        · rw [if_pos ⟨h1, h2, h3⟩] at hp'
          exact hp'
        · rw [if_neg (fun z => h3 z.2.2)] at hp'
          exact q hp'
      · rw [if_neg (fun z => h2 z.2.1)] at hp'
        exact br_f h2 (nm_r (nI_1 _) (q hp'))
    · rw [if_neg (fun z => h1 z.1)] at hp'
      exact br_f h1 (nm_r (nI_1 _) (q hp'))
theorem zl_Y_rank {post : Int32 → Prop} {fk lb pl ro : Int32} (hh : h ≤ 24) (hp : post (zl_rv N S V n s x h h 0)) : wpY_valueOf post (nI h, fk, lb, pl, ro, N, S, V) n s x :=
  ⟨h + 1, zl_yr (fk := fk) (lb := lb) (pl := pl) (ro := ro) hh h 0 (by omega) hp⟩
end
end
section
/-! the names: same or above, exists, the match, the hand-over; in lockstep -/
theorem zl_cvL (a : Int32) : ∀ (d c : Nat) (b : Int32), c + d = 4 → ∃ r : Int32, (r = 0 ∨ r = 1) ∧ (∀ post : Int32 → Prop, post r → wX_isSameOrAbove_4 post a (d + 1) b (nI c)) ∧ (∀ post : Int32 → Prop, post r → wY_covers_4 post a (d + 2) b (nI c))
  | 0, c, b, hc => by
    have e : c = 4 := by omega
    subst e
    have h4 : (4 : Int32) ≤ nI 4 := nI_le (a := 4) (b := 4) (by omega) (by decide)
    have h5 : ¬ (5 : Int32) ≤ nI 4 := nI_ge (b := 5) (by omega) (by decide)
    have h6 : (5 : Int32) ≤ nI 5 := nI_le (a := 5) (b := 5) (by omega) (by decide)
    by_cases q : b = a
    · exact ⟨1, Or.inr rfl, fun post hp => br_t h4 (br_t q hp), fun post hp => br_f h5 (br_t q hp)⟩
    · exact ⟨0, Or.inl rfl, fun post hp => br_t h4 (br_f q hp), fun post hp => br_f h5 (br_f q ⟨zl_n9, nm_e (nm_r (nI_1 4) (br_t h6 hp))⟩)⟩
  | d + 1, c, b, hc => by
    have h4 : ¬ (4 : Int32) ≤ nI c := nI_ge (b := 4) (by omega) (by decide)
    have h5 : ¬ (5 : Int32) ≤ nI c := nI_ge (b := 5) (by omega) (by decide)
    by_cases q : b = a
    · exact ⟨1, Or.inr rfl, fun post hp => br_f h4 (br_t q hp), fun post hp => br_f h5 (br_t q hp)⟩
    · obtain ⟨r, hr, hX, hY⟩ := zl_cvL a d (c + 1) (b / 9) (by omega)
      exact ⟨r, hr, fun post hp => br_f h4 (br_f q (zl_wl (nm_r (nI_1 c) (hX post hp)))), fun post hp => br_f h5 (br_f q ⟨zl_n9, nm_e (nm_r (nI_1 c) (hY post hp))⟩)⟩
theorem zl_cv (a b : Int32) : ∃ r : Int32, (r = 0 ∨ r = 1) ∧ (∀ post : Int32 → Prop, post r → wpX_isSameOrAbove post a b) ∧ (∀ post : Int32 → Prop, post r → wpY_covers post a b) := by
  obtain ⟨r, hr, hX, hY⟩ := zl_cvL a 4 0 b rfl
  rw [nI_0] at hX hY
  exact ⟨r, hr, fun post hp => ⟨_, hX post hp⟩, fun post hp => ⟨_, hY post hp⟩⟩
/-- one answer for both sides, whatever the other fields hold -/
def zl_XY (N S V : Nat → Int32) (h : Nat) (WX : (Int32 → Prop) → SX → Prop) (WY : (Int32 → Prop) → SY → Prop) (r : Int32) : Prop :=
  (∀ (post : Int32 → Prop) (fk la lp lr : Int32), post r → WX post (fk, nI h, la, lp, lr, N, S, V)) ∧ (∀ (post : Int32 → Prop) (fk lb pl ro : Int32), post r → WY post (nI h, fk, lb, pl, ro, N, S, V))
/-- none, or a number from 0 -/
def zl_nn (r : Int32) : Prop := r = -1 ∨ ∃ j : Nat, j < 2 ^ 31 ∧ r = nI j
section
variable {N S V : Nat → Int32} {h : Nat}
theorem zl_exL (hh : h ≤ 24) (n : Int32) (hn : ¬ n = 0) : ∀ (d i : Nat), i + d = h → ∃ r : Int32, (r = 0 ∨ r = 1) ∧ (∀ (post : Int32 → Prop) (fk la lp lr : Int32), post r → wX_nameExists_8 post n fk (nI h) la lp lr N S V (d + 1) (nI i)) ∧ (∀ (post : Int32 → Prop) (fk lb pl ro : Int32), post r → wY_there_2 post n (nI h) fk lb pl ro N S V (d + 1) (nI i))
  | 0, i, hd => by
    have e : i = h := by omega
    subst e
    have hx : nI i ≤ nI i := nI_le (by omega) (by omega)
    exact ⟨0, Or.inl rfl, fun _ _ _ _ _ hp => br_t hx hp, fun _ _ _ _ _ hp => br_t hx (br_f hn hp)⟩
  | d + 1, i, hd => by
    obtain ⟨r, hr, hX, hY⟩ := zl_exL hh n hn d (i + 1) (by omega)
    obtain ⟨q, hq, cX, cY⟩ := zl_cv n (N (nI i).toNatClampNeg)
    have hin : vp_in (nI i) 24 := vp_in_nI (by omega) (by omega)
    have hg : ¬ nI h ≤ nI i := nI_ge (by omega) (by omega)
    rcases hq with rfl | rfl
    · exact ⟨r, hr, fun post fk la lp lr hp => br_f hg ⟨hin, cX _ (br_t rfl (nm_r (nI_1 i) (hX post fk la lp lr hp)))⟩, fun post fk lb pl ro hp => br_f hg ⟨hin, cY _ (br_t rfl (nm_r (nI_1 i) (hY post fk lb pl ro hp)))⟩⟩
    · exact ⟨1, Or.inr rfl, fun post fk la lp lr hp => br_f hg ⟨hin, cX _ (br_f (by decide) hp)⟩, fun post fk lb pl ro hp => br_f hg ⟨hin, cY _ (br_f (by decide) hp)⟩⟩
theorem zl_ex0 (hh : h ≤ 24) {post : Int32 → Prop} {fk lb pl ro : Int32} (hp : post 1) : ∀ (d i : Nat), i + d = h → wY_there_2 post 0 (nI h) fk lb pl ro N S V (d + 1) (nI i)
  | 0, i, hd => by
    have e : i = h := by omega
    subst e
    exact br_t (nI_le (by omega) (by omega)) (br_t rfl hp)
  | d + 1, i, hd => by
    have q0 := zl_ex0 hh (fk := fk) (lb := lb) (pl := pl) (ro := ro) hp d (i + 1) (by omega)
    obtain ⟨q, hq, _, cY⟩ := zl_cv 0 (N (nI i).toNatClampNeg)
    have hin : vp_in (nI i) 24 := vp_in_nI (by omega) (by omega)
    have hg : ¬ nI h ≤ nI i := nI_ge (by omega) (by omega)
    rcases hq with rfl | rfl
    · exact br_f hg ⟨hin, cY _ (br_t rfl (nm_r (nI_1 i) q0))⟩
    · exact br_f hg ⟨hin, cY _ (br_f (by decide) hp)⟩
/-- nameExists and there -/
theorem zl_ex (N S V : Nat → Int32) (hh : h ≤ 24) (n : Int32) : ∃ r : Int32, (r = 0 ∨ r = 1) ∧ zl_XY N S V h (fun p u => wpX_nameExists p u n) (fun p v => wpY_there p v n) r := by
  by_cases hn : n = 0
  · subst hn
    exact ⟨1, Or.inr rfl, fun post fk la lp lr hp => br_t rfl hp, fun post fk lb pl ro hp => ⟨_, zl_ex0 hh hp h 0 (by omega)⟩⟩
  · obtain ⟨r, hr, hX, hY⟩ := zl_exL (N := N) (S := S) (V := V) hh n hn h 0 (by omega)
    exact ⟨r, hr, fun post fk la lp lr hp => br_f hn ⟨_, hX post fk la lp lr hp⟩, fun post fk lb pl ro hp => ⟨_, hY post fk lb pl ro hp⟩⟩
theorem zl_star {j : Nat} : nI j * 9 + 7 + 1 = nI (j * 9 + 8) ∧ nI j * 9 + 8 = nI (j * 9 + 8) := by
  have e9 : nI j * 9 = nI (j * 9) := pk_mul j 9
  have e7 : nI (j * 9) + 7 = nI (j * 9 + 7) := nI_add (j * 9) 7
  have e8 : nI (j * 9) + 8 = nI (j * 9 + 8) := nI_add (j * 9) 8
  rw [e9]
  exact ⟨by rw [e7, nI_1], e8⟩
/-- the star below the longest name above -/
theorem zl_mt41 (hh : h ≤ 24) {j : Nat} (hj : j < 6561) : ∃ r : Int32, zl_nn r ∧ (∀ (post : Int32 → Prop) (fk la lp lr : Int32), post r → wX_matchFor_41 post (nI j) fk (nI h) la lp lr N S V) ∧ (∀ (post : Int32 → Prop) (fk lb pl ro : Int32), post r → wY_answering_41 post (nI j) (nI h) fk lb pl ro N S V) := by
  obtain ⟨q, hq, cX, cY⟩ := zl_ex N S V hh (nI (j * 9 + 8))
  rcases hq with rfl | rfl
  · refine ⟨-1, Or.inl rfl, fun post fk la lp lr hp => ?_, fun post fk lb pl ro hp => nm_r zl_star.2 (cY _ fk lb pl ro (br_t rfl hp))⟩
    unfold wX_matchFor_41 wpX_withLabel
    rw [zl_star.1]
    exact cX _ fk la lp lr (br_t rfl hp)
  · refine ⟨nI (j * 9 + 8), Or.inr ⟨_, by omega, rfl⟩, fun post fk la lp lr hp => ?_, fun post fk lb pl ro hp => nm_r zl_star.2 (cY _ fk lb pl ro (br_f (by decide) hp))⟩
    unfold wX_matchFor_41 wpX_withLabel
    rw [zl_star.1]
    exact cX _ fk la lp lr (br_f (by decide) hp)
theorem zl_mt17 (hh : h ≤ 24) : ∀ (d c j : Nat), c + d = 4 → j < 6561 → ∃ r : Int32, zl_nn r ∧ (∀ (post : Int32 → Prop) (fk la lp lr : Int32), post r → wX_matchFor_17 post fk (nI h) la lp lr N S V (d + 1) (nI j) (nI c)) ∧ (∀ (post : Int32 → Prop) (fk lb pl ro : Int32), post r → wY_answering_17 post (nI h) fk lb pl ro N S V (d + 1) (nI j) (nI c))
  | 0, c, j, hc, hj => by
    have e : c = 4 := by omega
    subst e
    have h4 : (4 : Int32) ≤ nI 4 := nI_le (a := 4) (b := 4) (by omega) (by decide)
    obtain ⟨r, hr, hX, hY⟩ := zl_mt41 (N := N) (S := S) (V := V) hh hj
    exact ⟨r, hr, fun post fk la lp lr hp => br_t h4 (hX post fk la lp lr hp), fun post fk lb pl ro hp => br_t h4 (hY post fk lb pl ro hp)⟩
  | d + 1, c, j, hc, hj => by
    have h4 : ¬ (4 : Int32) ≤ nI c := nI_ge (b := 4) (by omega) (by decide)
    obtain ⟨q, hq, cX, cY⟩ := zl_ex N S V hh (nI j)
    rcases hq with rfl | rfl
    · obtain ⟨r, hr, hX, hY⟩ := zl_mt17 hh d (c + 1) (j / 9) (by omega) (by omega)
      exact ⟨r, hr, fun post fk la lp lr hp => br_f h4 (cX _ fk la lp lr (br_t rfl (zl_wn (by omega) (nm_r (nI_1 c) (hX post fk la lp lr hp))))), fun post fk lb pl ro hp => br_f h4 (cY _ fk lb pl ro (br_t rfl ⟨zl_n9, nm_r (zl_d9 (by omega)) (nm_r (nI_1 c) (hY post fk lb pl ro hp))⟩))⟩
    · obtain ⟨r, hr, hX, hY⟩ := zl_mt41 (N := N) (S := S) (V := V) hh hj
      exact ⟨r, hr, fun post fk la lp lr hp => br_f h4 (cX _ fk la lp lr (br_f (by decide) (hX post fk la lp lr hp))), fun post fk lb pl ro hp => br_f h4 (cY _ fk lb pl ro (br_f (by decide) (hY post fk lb pl ro hp)))⟩
/-- matchFor and answering -/
theorem zl_mt (N S V : Nat → Int32) (hh : h ≤ 24) {j : Nat} (hj : j < 6561) : ∃ r : Int32, zl_nn r ∧ zl_XY N S V h (fun p u => wpX_matchFor p u (nI j)) (fun p v => wpY_answering p v (nI j)) r := by
  obtain ⟨q, hq, cX, cY⟩ := zl_ex N S V hh (nI j)
  rcases hq with rfl | rfl
  · obtain ⟨r, hr, hX, hY⟩ := zl_mt17 (N := N) (S := S) (V := V) hh 4 0 (j / 9) rfl (by omega)
    rw [nI_0] at hX hY
    refine ⟨r, hr, fun post fk la lp lr hp => ?_, fun post fk lb pl ro hp => ?_⟩
    · dsimp only
      unfold wpX_matchFor
      exact cX _ fk la lp lr (br_t rfl (zl_wn (by omega) ⟨_, hX post fk la lp lr hp⟩))
    · dsimp only
      unfold wpY_answering
      exact cY _ fk lb pl ro (br_t rfl ⟨zl_n9, nm_r (zl_d9 (by omega)) ⟨_, hY post fk lb pl ro hp⟩⟩)
  · refine ⟨nI j, Or.inr ⟨j, by omega, rfl⟩, fun post fk la lp lr hp => ?_, fun post fk lb pl ro hp => ?_⟩
    · dsimp only
      unfold wpX_matchFor
      exact cX _ fk la lp lr (br_f (by decide) hp)
    · dsimp only
      unfold wpY_answering
      exact cY _ fk lb pl ro (br_f (by decide) hp)
/-- shortestHandOver and handed -/
theorem zl_hoL (hh : h ≤ 24) : ∀ (d c j : Nat) (b : Int32), c + d = 4 → j < 6561 → zl_nn b → ∃ r : Int32, zl_nn r ∧ (∀ (post : Int32 → Prop) (fk la lp lr : Int32), post r → wX_shortestHandOver_7 post fk (nI h) la lp lr N S V (d + 1) b (nI j) (nI c)) ∧ (∀ (post : Int32 → Prop) (fk lb pl ro : Int32), post r → wY_handed_7 post (nI h) fk lb pl ro N S V (d + 1) b (nI j) (nI c))
  | 0, c, j, b, hc, hj, hb => by
    have e : c = 4 := by omega
    subst e
    have h4 : (4 : Int32) ≤ nI 4 := nI_le (a := 4) (b := 4) (by omega) (by decide)
    exact ⟨b, hb, fun post fk la lp lr hp => br_t h4 hp, fun post fk lb pl ro hp => br_t h4 hp⟩
  | d + 1, c, j, b, hc, hj, hb => by
    have h4 : ¬ (4 : Int32) ≤ nI c := nI_ge (b := 4) (by omega) (by decide)
    by_cases j0 : j = 0
    · subst j0
      exact ⟨b, hb, fun post fk la lp lr hp => br_f h4 (br_t nI_0 hp), fun post fk lb pl ro hp => br_f h4 (br_t (by rw [nI_0]; decide) hp)⟩
    · have h0 : ¬ nI j = 0 := nI_ne0 (by omega) (by omega)
      have h0' : ¬ nI j ≤ 0 := nI_nle (by omega) (by omega)
      have hcl := zl_c_le (N := N) (S := S) (n := nI j) (s := 4) h
      by_cases z : zl_c N S (nI j) 4 h = 0
      · obtain ⟨r, hr, hX, hY⟩ := zl_hoL hh d (c + 1) (j / 9) b (by omega) (by omega) hb
        refine ⟨r, hr, fun post fk la lp lr hp => br_f h4 (br_f h0 (zl_X_sort hh (fun _ => ?_) (fun e he hn hs => ?_))), fun post fk lb pl ro hp => br_f h4 (br_f h0' (zl_Y_count hh ?_))⟩
        · exact br_t rfl (zl_wn (by omega) (nm_r (nI_1 c) (hX post fk la lp lr hp)))
        · have := zl_c_pos he hn hs; omega
        · rw [z, nI_0]
          exact br_t (by decide) ⟨zl_n9, nm_r (zl_d9 (by omega)) (nm_r (nI_1 c) (hY post fk lb pl ro hp))⟩
      · obtain ⟨r, hr, hX, hY⟩ := zl_hoL hh d (c + 1) (j / 9) (nI j) (by omega) (by omega) (Or.inr ⟨j, by omega, rfl⟩)
        refine ⟨r, hr, fun post fk la lp lr hp => br_f h4 (br_f h0 (zl_X_sort hh (fun q => absurd q z) (fun e he hn hs => ?_))), fun post fk lb pl ro hp => br_f h4 (br_f h0' (zl_Y_count hh ?_))⟩
        · exact br_f (zl_nm1 (by omega)) (zl_wn (by omega) (nm_r (nI_1 c) (hX post fk la lp lr hp)))
        · exact br_f (nI_nle (by omega) (by omega)) ⟨zl_n9, nm_r (zl_d9 (by omega)) (nm_r (nI_1 c) (hY post fk lb pl ro hp))⟩
theorem zl_ho (N S V : Nat → Int32) (hh : h ≤ 24) {j : Nat} (hj : j < 6561) : ∃ r : Int32, zl_nn r ∧ zl_XY N S V h (fun p u => wpX_shortestHandOver p u (nI j)) (fun p v => wpY_handed p v (nI j)) r := by
  obtain ⟨r, hr, hX, hY⟩ := zl_hoL (N := N) (S := S) (V := V) hh 4 0 j (-1) rfl hj (Or.inl rfl)
  rw [nI_0] at hX hY
  exact ⟨r, hr, fun post fk la lp lr hp => ⟨_, hX post fk la lp lr hp⟩, fun post fk lb pl ro hp => ⟨_, hY post fk lb pl ro hp⟩⟩
end
end
section
/-! looking up: both sides in lockstep, round by round -/
section
variable {N S V : Nat → Int32} {h : Nat}
theorem zl_c_ex {n s : Int32} : ∀ (i : Nat), ¬ zl_c N S n s i = 0 → ∃ e : Nat, e < i ∧ N e = n ∧ S e = s
  | 0, hz => absurd rfl hz
  | i + 1, hz => by
    by_cases q : N i = n ∧ S i = s
    · exact ⟨i, by omega, q.1, q.2⟩
    · rw [zl_c_n q] at hz
      obtain ⟨e, he, w⟩ := zl_c_ex i hz
      exact ⟨e, by omega, w⟩
/-- (d): the answer is there, or no data -/
theorem zl_fin (N S V : Nat → Int32) (hh : h ≤ 24) (sort m : Int32) : ∃ a : Int32, (∀ (post : SX → Prop) (J : Int32 → Int32 → Int32 → Prop) (x2 x3 fk la lp lr : Int32), post (fk, nI h, a, m, lr, N, S, V) → wX_lookUp_83 post J sort x2 x3 m (-1) fk (nI h) la lp lr N S V) ∧ (∀ (post : Int32 → SY → Prop) (fk lb pl ro : Int32), post a (nI h, fk, lb, m, ro, N, S, V) → wY_lookUp_81 post sort m (nI h) fk lb pl ro N S V) := by
  have hcl := zl_c_le (N := N) (S := S) (n := m) (s := sort) h
  by_cases z : zl_c N S m sort h = 0
  · refine ⟨2, fun post J x2 x3 fk la lp lr hp => br_t rfl (zl_X_sort hh (fun _ => br_t rfl hp) (fun e he hn hs => ?_)), fun post fk lb pl ro hp => ?_⟩
    · have := zl_c_pos he hn hs; omega
    · unfold wY_lookUp_81
      refine zl_Y_count hh ?_
      rw [z, nI_0]
      exact br_t (by decide) hp
  · refine ⟨1, fun post J x2 x3 fk la lp lr hp => br_t rfl (zl_X_sort hh (fun q => absurd q z) (fun e he hn hs => br_f (zl_nm1 (by omega)) hp)), fun post fk lb pl ro hp => ?_⟩
    unfold wY_lookUp_81
    exact zl_Y_count hh (br_f (nI_nle (by omega) (by omega)) hp)
/-- a round in which nothing is handed over -/
theorem zl_lu31 (hh : h ≤ 24) (HV : ∀ i, i < h → S i = 3 → ∃ j : Nat, j < 6561 ∧ V i = nI j) (HU : ∀ n s : Int32, s = 3 ∨ s = 4 → zl_c N S n s h ≤ 1) (sort : Int32) {t j n : Nat} (ht : t ≤ 5) (hj : j < 6561)
    (ih : t < 5 → ∀ q : Nat, q < 6561 → ∃ a p r : Int32, (∀ (post : SX → Prop) (fk la lp lr : Int32), post (fk, nI h, a, p, r, N, S, V) → wX_lookUp_7 post sort fk (nI h) la lp N S V n (nI q) (nI (t + 1)) lr) ∧ (∀ (post : Int32 → SY → Prop) (fk lb pl : Int32), post a (nI h, fk, lb, p, r, N, S, V) → wY_lookUp_10 post sort (nI h) fk lb N S V n (nI q) pl (nI (t + 1)))) :
    ∃ a p r : Int32, (∀ (post : SX → Prop) (fk la lp : Int32), post (fk, nI h, a, p, r, N, S, V) → wX_lookUp_31 post (wX_lookUp_7 post sort fk (nI h) la lp N S V n) sort (nI j) (nI t) (-1) fk (nI h) la lp (nI t) N S V) ∧ (∀ (post : Int32 → SY → Prop) (fk lb pl : Int32), post a (nI h, fk, lb, p, r, N, S, V) → wY_lookUp_32 post (wY_lookUp_10 post sort (nI h) fk lb N S V n) sort (nI j) (-1) (nI h) fk lb pl (nI t) N S V) := by
  obtain ⟨m, hm, mX, mY⟩ := zl_mt N S V hh hj
  have hneg : (-1 : Int32) < 0 := by decide
  rcases hm with rfl | ⟨i, hi, rfl⟩
  · exact ⟨3, nI j, nI t, fun post fk la lp hp => br_t rfl (mX _ fk la lp (nI t) (br_t rfl hp)), fun post fk lb pl hp => br_t hneg (br_t hneg (mY _ fk lb (nI j) (nI t) (br_f (by decide) hp)))⟩
  · have hi0 : (0 : Int32) ≤ nI i := nI_pos' hi
    have him : ¬ nI i = -1 := zl_nm1 hi
    have hcl := zl_c_le (N := N) (S := S) (n := nI i) (s := 3) h
    obtain ⟨a, fX, fY⟩ := zl_fin N S V hh sort (nI i)
    by_cases s3 : sort = 3
    · refine ⟨a, nI i, nI t, fun post fk la lp hp => br_t rfl (mX _ fk la lp (nI t) (br_f him (br_t s3 (fX post _ _ _ fk la lp (nI t) hp)))), fun post fk lb pl hp => br_t hneg (br_t hneg (mY _ fk lb (nI j) (nI t) (br_t hi0 (zl_Y_count hh ?_))))⟩
      exact br_c (fun _ => fY post fk lb (nI j) (nI t) hp) (fun _ => br_t s3 (fY post fk lb (nI j) (nI t) hp))
    · by_cases z : zl_c N S (nI i) 3 h = 0
      · refine ⟨a, nI i, nI t, fun post fk la lp hp => br_t rfl (mX _ fk la lp (nI t) (br_f him (br_f s3 (zl_X_sort hh (fun _ => fX post _ _ _ fk la lp (nI t) hp) (fun e he hn hs => ?_))))), fun post fk lb pl hp => br_t hneg (br_t hneg (mY _ fk lb (nI j) (nI t) (br_t hi0 (zl_Y_count hh ?_))))⟩
        · have := zl_c_pos he hn hs; omega
        · rw [z, nI_0]
          exact br_t rfl (fY post fk lb (nI j) (nI t) hp)
      · have hz : ¬ nI (zl_c N S (nI i) 3 h) = 0 := nI_ne0 (by omega) (by omega)
        obtain ⟨e, he, hn, hs⟩ := zl_c_ex h z
        have hu := HU (nI i) 3 (Or.inl rfl)
        have hrv : zl_rv N S V (nI i) 3 0 h h 0 = V e := zl_rv_u hu he hn hs h 0 (by omega) (by omega)
        have hce : (nI e).toNatClampNeg = e := nI_clamp (by omega)
        have hin : vp_in (nI e) 24 := vp_in_nI (by omega) (by omega)
        by_cases t5 : t = 5
        · subst t5
          refine ⟨5, nI j, nI 5, fun post fk la lp hp => br_t rfl (mX _ fk la lp (nI 5) (br_f him (br_f s3 (zl_X_sort hh (fun q => absurd q z) (fun e' he' hn' hs' => br_f (zl_nm1 (by omega)) (br_t rfl hp)))))), fun post fk lb pl hp => br_t hneg (br_t hneg (mY _ fk lb (nI j) (nI 5) (br_t hi0 (zl_Y_count hh (br_f hz (br_f s3 (br_t rfl hp)))))))⟩
        · have ht5 : ¬ nI t = 5 := by
            intro q
            exact t5 ((nI_eq (a := t) (b := 5) (by omega) (by omega)).mp q)
          obtain ⟨q, hq, hvq⟩ := HV e he hs
          obtain ⟨a, p, r, hX, hY⟩ := ih (by omega) q hq
          refine ⟨a, p, r, fun post fk la lp hp => br_t rfl (mX _ fk la lp (nI t) (br_f him (br_f s3 (zl_X_sort hh (fun q => absurd q z) (fun e' he' hn' hs' => br_f (zl_nm1 (by omega)) (br_f ht5 ?_)))))), fun post fk lb pl hp => br_t hneg (br_t hneg (mY _ fk lb (nI j) (nI t) (br_t hi0 (zl_Y_count hh (br_f hz (br_f s3 (br_f ht5 (zl_Y_rank hh ?_))))))))⟩
          · have ee : e' = e := zl_uni hu he' he hn' hs' hn hs
            subst ee
            refine ⟨hin, ?_⟩
            rw [hce]
            exact nm_r hvq (nm_r (nI_1 t) (hX post fk la lp (nI t) hp))
          · rw [hrv, hvq]
            exact nm_r (nI_1 t) (hY post fk lb (nI j) hp)
theorem zl_lu (hh : h ≤ 24) (HV : ∀ i, i < h → S i = 3 → ∃ j : Nat, j < 6561 ∧ V i = nI j) (HU : ∀ n s : Int32, s = 3 ∨ s = 4 → zl_c N S n s h ≤ 1) (sort : Int32) : ∀ (d t j : Nat), t + d = 5 → j < 6561 → ∃ a p r : Int32, (∀ (post : SX → Prop) (fk la lp lr : Int32), post (fk, nI h, a, p, r, N, S, V) → wX_lookUp_7 post sort fk (nI h) la lp N S V (d + 1) (nI j) (nI t) lr) ∧ (∀ (post : Int32 → SY → Prop) (fk lb pl : Int32), post a (nI h, fk, lb, p, r, N, S, V) → wY_lookUp_10 post sort (nI h) fk lb N S V (d + 1) (nI j) pl (nI t)) := by
  intro d
  induction d with
  | zero =>
    intro t j htd hj
    have h5 : ¬ (5 : Int32) < nI t := nI_nlt (a := 5) (by omega) (by decide)
    obtain ⟨a, p, r, X31, Y32⟩ := zl_lu31 (t := t) (n := 0) hh HV HU sort (by omega) hj (fun q => by omega)
    by_cases s4 : sort = 4
    · exact ⟨a, p, r, fun post fk la lp lr hp => br_f h5 (br_t s4 (X31 post fk la lp hp)), fun post fk lb pl hp => br_f h5 (br_t s4 (Y32 post fk lb pl hp))⟩
    · obtain ⟨o, ho, oX, oY⟩ := zl_ho N S V hh hj
      rcases ho with rfl | ⟨i, hi, rfl⟩
      · exact ⟨a, p, r, fun post fk la lp lr hp => br_f h5 (br_f s4 (oX _ fk la lp (nI t) (X31 post fk la lp hp))), fun post fk lb pl hp => br_f h5 (br_f s4 (oY _ fk lb pl (nI t) (Y32 post fk lb pl hp)))⟩
      · exact ⟨4, nI i, nI t, fun post fk la lp lr hp => br_f h5 (br_f s4 (oX _ fk la lp (nI t) (br_f (zl_nm1 hi) hp))), fun post fk lb pl hp => br_f h5 (br_f s4 (oY _ fk lb pl (nI t) (br_f (nI_pos hi) (br_f (nI_pos hi) hp))))⟩
  | succ d ih =>
    intro t j htd hj
    have h5 : ¬ (5 : Int32) < nI t := nI_nlt (a := 5) (by omega) (by decide)
    obtain ⟨a, p, r, X31, Y32⟩ := zl_lu31 (t := t) (n := d + 1) hh HV HU sort (by omega) hj (fun q q' hq' => ih (t + 1) q' (by omega) hq')
    by_cases s4 : sort = 4
    · exact ⟨a, p, r, fun post fk la lp lr hp => br_f h5 (br_t s4 (X31 post fk la lp hp)), fun post fk lb pl hp => br_f h5 (br_t s4 (Y32 post fk lb pl hp))⟩
    · obtain ⟨o, ho, oX, oY⟩ := zl_ho N S V hh hj
      rcases ho with rfl | ⟨i, hi, rfl⟩
      · exact ⟨a, p, r, fun post fk la lp lr hp => br_f h5 (br_f s4 (oX _ fk la lp (nI t) (X31 post fk la lp hp))), fun post fk lb pl hp => br_f h5 (br_f s4 (oY _ fk lb pl (nI t) (Y32 post fk lb pl hp)))⟩
      · exact ⟨4, nI i, nI t, fun post fk la lp lr hp => br_f h5 (br_f s4 (oX _ fk la lp (nI t) (br_f (zl_nm1 hi) hp))), fun post fk lb pl hp => br_f h5 (br_f s4 (oY _ fk lb pl (nI t) (br_f (nI_pos hi) (br_f (nI_pos hi) hp))))⟩
/-- the whole lookup: one answer, one place, one number of rounds -/
theorem zl_look (hh : h ≤ 24) (HV : ∀ i, i < h → S i = 3 → ∃ j : Nat, j < 6561 ∧ V i = nI j) (HU : ∀ n s : Int32, s = 3 ∨ s = 4 → zl_c N S n s h ≤ 1) (sort : Int32) {k : Nat} (hk : k < 6561) : ∃ a p r : Int32, (∀ (post : SX → Prop) (la lp lr : Int32), post (nI k, nI h, a, p, r, N, S, V) → wpX_lookUp post (nI k, nI h, la, lp, lr, N, S, V) sort) ∧ (∀ (post : Int32 → SY → Prop) (lb pl ro : Int32), post a (nI h, nI k, lb, p, r, N, S, V) → wpY_lookUp post (nI h, nI k, lb, pl, ro, N, S, V) sort) := by
  obtain ⟨a, p, r, hX, hY⟩ := zl_lu hh HV HU sort 4 1 k (by omega) hk
  exact ⟨a, p, r, fun post la lp lr hp => ⟨_, hX post (nI k) la lp lr hp⟩, fun post lb pl ro hp => ⟨_, hY post (nI k) lb pl hp⟩⟩
end
end
section
/-! the relation, and what is owed -/
/-- how many entries of a sort a name may have -/
def zl_mx (s : Int32) : Nat := if s = 3 ∨ s = 4 then 1 else 3
/-- h entries are held, the key is k with l labels -/
def zl_R (h l k : Nat) (N S V : Nat → Int32) : Prop :=
  h ≤ 24 ∧ l ≤ 4 ∧ zl_nm l k ∧ (∀ n s : Int32, zl_c N S n s h ≤ zl_mx s) ∧ (∀ i, i < h → S i = 3 → ∃ j : Nat, j < 6561 ∧ V i = nI j)
def i_Rel (k : Nat) (u : SX) (v : SY) : Prop :=
  ∃ (h l c : Nat) (N S V : Nat → Int32) (la lp lr pl ro : Int32), u = (nI c, nI h, la, lp, lr, N, S, V) ∧ v = (nI h, nI c, nI l, pl, ro, N, S, V) ∧ zl_R h l c N S V
theorem i_up {k : Nat} {u : SX} {v : SY} (h : i_Rel k u v) : i_Rel (k + 3) u v := h
theorem zl_c0 {N S : Nat → Int32} {n s : Int32} : zl_c N S n s 0 = 0 := rfl
theorem i_vc0 : wpX_init (fun u => wpY_init (fun v => i_Rel 0 u v)) :=
  ⟨0, 0, 0, _, _, _, _, _, _, _, _, rfl, rfl, by omega, by omega, rfl, fun n s => Nat.zero_le _, fun i hi => absurd hi (Nat.not_lt_zero i)⟩
theorem zl_mx1 {s : Int32} (hs : s = 3 ∨ s = 4) : zl_mx s = 1 := if_pos hs
theorem zl_HU {h l k : Nat} {N S V : Nat → Int32} (R : zl_R h l k N S V) (n s : Int32) (hs : s = 3 ∨ s = 4) : zl_c N S n s h ≤ 1 := by
  have q := R.2.2.2.1 n s
  rw [zl_mx1 hs] at q
  exact q
theorem zl_k6 {h l k : Nat} {N S V : Nat → Int32} (R : zl_R h l k N S V) : k < 6561 := zl_nm_lt4 R.2.1 R.2.2.1
theorem i_vc_label {k : Nat} {u : SX} {v : SY} (I : i_Rel k u v) (hk : k + 3 ≤ 1536) (v1 : Int32) : wpX_label (fun r u' => wpY_label (fun r' v' => r' = r ∧ i_Rel (k + 3) u' v') v v1) u v1 := by
  obtain ⟨h, l, c, N, S, V, la, lp, lr, pl, ro, rfl, rfl, R⟩ := I
  have R' := R
  obtain ⟨hh, hl, hn, hc, hv⟩ := R
  unfold wpX_label
  refine zl_labelCount hn hl ?_
  by_cases l4 : l = 4
  · subst l4
    refine br_f (nI_nlt (b := 4) (by omega) (by decide)) (br_t rfl ⟨rfl, ?_⟩)
    exact ⟨h, 4, c, N, S, V, la, lp, lr, pl, ro, rfl, rfl, R'⟩
  · have hlt : nI l < 4 := nI_lt (b := 4) (by omega) (by decide)
    have hne : ¬ nI l = 4 := fun q => l4 ((nI_eq (a := l) (b := 4) (by omega) (by omega)).mp q)
    obtain ⟨j, hj, ej⟩ := pk_andE v1 (m := 7) 3 (by decide)
    have hj8 : j < 8 := hj
    have ek : nI c * 9 + (v1 &&& 7) + 1 = nI (c * 9 + j + 1) := by
      have e9 : nI c * 9 = nI (c * 9) := pk_mul c 9
      rw [ej, e9, nI_add, nI_1]
    refine br_t hlt ?_
    unfold wpX_withLabel
    rw [ek]
    refine br_f hne (nm_r ek (nm_r (nI_1 l) ⟨(nI_1 l).symm, ?_⟩))
    exact ⟨h, l + 1, c * 9 + j + 1, N, S, V, la, lp, lr, pl, ro, rfl, rfl, hh, by omega, zl_nm_add hn hj8, hc, hv⟩
theorem i_vc_back {k : Nat} {u : SX} {v : SY} (I : i_Rel k u v) (hk : k + 3 ≤ 1536) : wpX_back (fun r u' => wpY_back (fun r' v' => r' = r ∧ i_Rel (k + 3) u' v') v) u := by
  obtain ⟨h, l, c, N, S, V, la, lp, lr, pl, ro, rfl, rfl, R⟩ := I
  have R' := R
  have c6 := zl_k6 R
  obtain ⟨hh, hl, hn, hc, hv⟩ := R
  cases l with
  | zero =>
    have e : c = 0 := hn
    subst e
    exact br_t nI_0 (br_t nI_0 ⟨rfl, h, 0, 0, N, S, V, la, lp, lr, pl, ro, rfl, rfl, R'⟩)
  | succ l =>
    have hc0 : ¬ nI c = 0 := nI_ne0 (zl_nm_pos hn) (by omega)
    have hl0 : ¬ nI (l + 1) = 0 := nI_ne0 (by omega) (by omega)
    refine br_f hc0 ⟨zl_n9, nm_e (zl_wn (by omega) (br_f hl0 ⟨zl_n9, nm_e ⟨zl_n9, nm_r (zl_d9 (by omega)) (nm_r (nI_pred l) ⟨rfl, ?_⟩)⟩⟩))⟩
    exact ⟨h, l, c / 9, N, S, V, la, lp, lr, pl, ro, rfl, rfl, hh, by omega, hn.2, hc, hv⟩
theorem i_vc_erase {k : Nat} {u : SX} {v : SY} (I : i_Rel k u v) (hk : k + 3 ≤ 1536) : wpX_erase (fun u' => wpY_erase (fun v' => i_Rel (k + 3) u' v') v) u := by
  obtain ⟨h, l, c, N, S, V, la, lp, lr, pl, ro, rfl, rfl, R⟩ := I
  exact ⟨h, 0, 0, N, S, V, la, lp, lr, pl, ro, rfl, rfl, R.1, by omega, rfl, R.2.2.2⟩
theorem i_vc_number {k : Nat} {u : SX} {v : SY} (I : i_Rel k u v) (hk : k + 3 ≤ 1536) : wpX_number (fun r => wpY_number (fun r' => r' = r ∧ i_Rel (k + 3) u v) v) u := by
  obtain ⟨h, l, c, N, S, V, la, lp, lr, pl, ro, rfl, rfl, R⟩ := I
  exact ⟨rfl, h, l, c, N, S, V, la, lp, lr, pl, ro, rfl, rfl, R⟩
/-! add -/
theorem zl_c_cong {N S N' S' : Nat → Int32} {n s : Int32} : ∀ (i : Nat), (∀ j, j < i → N' j = N j ∧ S' j = S j) → zl_c N' S' n s i = zl_c N S n s i
  | 0, _ => rfl
  | i + 1, H => by
    have q := zl_c_cong (n := n) (s := s) i (fun j hj => H j (by omega))
    have e := H i (by omega)
    by_cases m : N i = n ∧ S i = s
    · rw [zl_c_y m.1 m.2, zl_c_y (e.1.trans m.1) (e.2.trans m.2), q]
    · rw [zl_c_n m, zl_c_n (by rw [e.1, e.2]; exact m), q]
theorem zl_R_add {h l c : Nat} {N S V : Nat → Int32} {s v : Int32} (R : zl_R h l c N S V) (h24 : h < 24) (hm : zl_c N S (nI c) s h < zl_mx s) (hv : s = 3 → ∃ j : Nat, j < 6561 ∧ v = nI j) : zl_R (h + 1) l c (upd N h (nI c)) (upd S h s) (upd V h v) := by
  obtain ⟨hh, hl, hn, hc, hV⟩ := R
  refine ⟨by omega, hl, hn, fun n s' => ?_, fun i hi hs => ?_⟩
  · have q : zl_c (upd N h (nI c)) (upd S h s) n s' h = zl_c N S n s' h := zl_c_cong h (fun j hj => ⟨pk_un (by omega), pk_un (by omega)⟩)
    by_cases m : nI c = n ∧ s = s'
    · rw [zl_c_y (pk_us.trans m.1) (pk_us.trans m.2), q, ← m.1, ← m.2]
      omega
    · rw [zl_c_n (by rw [pk_us, pk_us]; exact m), q]
      exact hc n s'
  · by_cases e : i = h
    · subst e
      rw [pk_us] at hs ⊢
      exact hv hs
    · rw [pk_un e] at hs ⊢
      exact hV i (by omega) hs
theorem zl_rel {k h l c : Nat} {N S V : Nat → Int32} {la lp lr pl ro : Int32} (R : zl_R h l c N S V) : i_Rel k (nI c, nI h, la, lp, lr, N, S, V) (nI h, nI c, nI l, pl, ro, N, S, V) :=
  ⟨h, l, c, N, S, V, la, lp, lr, pl, ro, rfl, rfl, R⟩
/-- the sorts from 1 to 4 -/
theorem zl_sorts {s : Int32} (h1 : ¬ s < 1) (h4 : ¬ 4 < s) : s = 1 ∨ s = 2 ∨ s = 3 ∨ s = 4 := by
  have h0 : ¬ s < 0 := fun q => h1 (Int32.lt_trans q (by decide))
  obtain ⟨j, hj, rfl⟩ := nI_of h0
  have a : ¬ j < 1 := fun q => h1 (nI_lt (b := 1) q (by decide))
  have b : ¬ 4 < j := fun q => h4 (nI_lt (a := 4) q hj)
  rcases (by omega : j = 1 ∨ j = 2 ∨ j = 3 ∨ j = 4) with rfl | rfl | rfl | rfl
  · exact Or.inl rfl
  · exact Or.inr (Or.inl rfl)
  · exact Or.inr (Or.inr (Or.inl rfl))
  · exact Or.inr (Or.inr (Or.inr rfl))
/-- both sides' most: zl_mx -/
theorem zl_most {s : Int32} {post : Int32 → Prop} (hp : post (nI (zl_mx s))) : wpX_mostEntries post s := by
  by_cases s3 : s = 3
  · rw [zl_mx1 (Or.inl s3)] at hp
    exact br_t s3 hp
  · by_cases s4 : s = 4
    · rw [zl_mx1 (Or.inr s4)] at hp
      exact br_f s3 (br_t s4 hp)
    · rw [show zl_mx s = 3 from if_neg (fun q => q.elim s3 s4)] at hp
      exact br_f s3 (br_f s4 hp)
theorem zl_Y65 {s : Int32} (h1 : ¬ s < 1) (h4 : ¬ 4 < s) {P : Int32 → Prop} (hp : P (nI (zl_mx s))) : (2 < s → P 1) ∧ (¬ 2 < s → P 3) := by
  rcases zl_sorts h1 h4 with rfl | rfl | rfl | rfl
  · exact br_f (by decide) hp
  · exact br_f (by decide) hp
  · exact br_t (by decide) hp
  · exact br_t (by decide) hp
theorem zl_add {k h l c : Nat} {N S V : Nat → Int32} {la lp lr pl ro s v : Int32} {Q : Int32 → SX → Prop} (R : zl_R h l c N S V) (h24 : h < 24) (h1 : ¬ s < 1) (h4 : ¬ 4 < s) (hv : s = 3 → ∃ j : Nat, j < 6561 ∧ v = nI j) (HQ : ∀ (r : Int32) (u' : SX), wY_add_22 (fun r' v' => r' = r ∧ i_Rel k u' v') s v (nI h) (nI c) (nI l) pl ro N S V → Q r u') : wX_add_32 Q s v (nI c) (nI h) la lp lr N S V := by
  have hh : h ≤ 24 := by omega
  have ne24 : ¬ nI h = 24 := fun q => by
    have := (nI_eq (a := h) (b := 24) (by omega) (by omega)).mp q
    omega
  have hin : vp_in (nI h) 24 := vp_in_nI h24 (by omega)
  have hcl : (nI h).toNatClampNeg = h := nI_clamp (by omega)
  have hcm := R.2.2.2.1 (nI c) s
  have mxb : zl_mx s ≤ 3 := by
    unfold zl_mx
    split <;> omega
  obtain ⟨f, hf, fX, fY⟩ := zl_find N S V (nI c) s v hh
  unfold wX_add_32
  refine zl_X_count hh (zl_most ?_)
  by_cases full : zl_c N S (nI c) s h = zl_mx s
  · refine br_t (nI_le (by omega) (by omega)) (HQ _ _ (br_f ne24 (fY _ (nI c) (nI l) pl ro ?_)))
    refine br_c (fun _ => ⟨rfl, zl_rel R⟩) (fun _ => zl_Y_count hh ?_)
    refine zl_Y65 (P := fun z => wY_add_65 _ s v z _ _ _ _ _ _ _ _ _) h1 h4 ?_
    exact br_t (by rw [full]) ⟨rfl, zl_rel R⟩
  · refine br_f (nI_ge (by omega) (by omega)) (fX _ (nI c) la lp lr ?_)
    rcases hf with rfl | ⟨e, he, rfl, _⟩
    · refine br_t rfl ⟨hin, nm_e ⟨hin, nm_e ⟨hin, nm_e (nm_r (nI_1 h) (HQ _ _ ?_))⟩⟩⟩
      refine br_f ne24 (fY _ (nI c) (nI l) pl ro (br_f (by decide) (zl_Y_count hh ?_)))
      refine zl_Y65 (P := fun z => wY_add_65 _ s v z _ _ _ _ _ _ _ _ _) h1 h4 ?_
      refine br_f (fun q => full ((nI_eq (by omega) (by omega)).mp q)) ⟨hin, nm_e ⟨hin, nm_e ⟨hin, nm_e (nm_r (nI_1 h) ⟨rfl, ?_⟩)⟩⟩⟩
      rw [hcl]
      exact zl_rel (zl_R_add R h24 (by omega) hv)
    · refine br_f (zl_nm1 (by omega)) (HQ _ _ (br_f ne24 (fY _ (nI c) (nI l) pl ro (br_t (nI_pos' (by omega)) ⟨rfl, zl_rel R⟩))))
theorem i_vc_add {k : Nat} {u : SX} {v : SY} (I : i_Rel k u v) (hk : k + 3 ≤ 1536) (v1 : Int32) (v2 : Int32) : wpX_add (fun r u' => wpY_add (fun r' v' => r' = r ∧ i_Rel (k + 3) u' v') v v1 v2) u v1 v2 := by
  obtain ⟨h, l, c, N, S, V, la, lp, lr, pl, ro, rfl, rfl, R⟩ := I
  have hh := R.1
  unfold wpX_add
  by_cases h1 : v1 < 1
  · exact br_t h1 (br_t rfl (br_t h1 ⟨rfl, zl_rel R⟩))
  · by_cases h4 : 4 < v1
    · exact br_f h1 (br_t h4 (br_t rfl (br_f h1 (br_t h4 ⟨rfl, zl_rel R⟩))))
    · refine br_f h1 (br_f h4 (br_f (by decide) ?_))
      obtain ⟨r, hr, iX, iY⟩ := zl_isName v2
      by_cases h24 : h < 24
      · refine br_t (nI_lt (b := 24) h24 (by decide)) ?_
        by_cases s3 : v1 = 3
        · rcases hr with rfl | ⟨rfl, hj⟩
          · exact br_t s3 (iX _ (br_t rfl (br_f h1 (br_f h4 (br_t s3 (iY _ (br_t rfl ⟨rfl, zl_rel R⟩)))))))
          · exact br_t s3 (iX _ (br_f (by decide) (zl_add (k := k + 3) (pl := pl) (ro := ro) R h24 h1 h4 (fun _ => hj) (fun r u' w => br_f h1 (br_f h4 (br_t s3 (iY _ (br_f (by decide) w))))))))
        · exact br_f s3 (zl_add (k := k + 3) (pl := pl) (ro := ro) R h24 h1 h4 (fun q => absurd q s3) (fun r u' w => br_f h1 (br_f h4 (br_f s3 w))))
      · have e : h = 24 := by omega
        subst e
        refine br_f (nI_nlt (a := 24) (b := 24) (by omega) (by decide)) (br_f h1 (br_f h4 ?_))
        by_cases s3 : v1 = 3
        · rcases hr with rfl | ⟨rfl, hj⟩
          · exact br_t s3 (iY _ (br_t rfl ⟨rfl, zl_rel R⟩))
          · exact br_t s3 (iY _ (br_f (by decide) (br_t rfl ⟨rfl, zl_rel R⟩)))
        · exact br_f s3 (br_t rfl ⟨rfl, zl_rel R⟩)
/-! remove -/
/-- 1 where entry i is of the name and the sort -/
def zl_i (N S : Nat → Int32) (n s : Int32) (i : Nat) : Nat := if N i = n ∧ S i = s then 1 else 0
theorem zl_c_s {N S : Nat → Int32} {n s : Int32} (i : Nat) : zl_c N S n s (i + 1) = zl_c N S n s i + zl_i N S n s i := rfl
theorem zl_c_rm {N S : Nat → Int32} {n s : Int32} {e g : Nat} : ∀ (i : Nat), e < i → zl_c (upd N e (N g)) (upd S e (S g)) n s i + zl_i N S n s e = zl_c N S n s i + zl_i N S n s g
  | i + 1, he => by
    rw [zl_c_s, zl_c_s]
    by_cases q : e = i
    · subst q
      have a : zl_c (upd N e (N g)) (upd S e (S g)) n s e = zl_c N S n s e := zl_c_cong e (fun j hj => ⟨pk_un (by omega), pk_un (by omega)⟩)
      have b : zl_i (upd N e (N g)) (upd S e (S g)) n s e = zl_i N S n s g := by
        unfold zl_i
        rw [pk_us, pk_us]
      rw [a, b]
      omega
    · have w := zl_c_rm (N := N) (S := S) (n := n) (s := s) (e := e) (g := g) i (by omega)
      have b : zl_i (upd N e (N g)) (upd S e (S g)) n s i = zl_i N S n s i := by
        unfold zl_i
        rw [pk_un (fun z => q z.symm), pk_un (fun z => q z.symm)]
      rw [b]
      omega
theorem zl_R_rm {g e l c : Nat} {N S V : Nat → Int32} (R : zl_R (g + 1) l c N S V) (he : e < g + 1) : zl_R g l c (upd N e (N g)) (upd S e (S g)) (upd V e (V g)) := by
  obtain ⟨hh, hl, hn, hc, hV⟩ := R
  refine ⟨by omega, hl, hn, fun n s => ?_, fun i hi hs => ?_⟩
  · have q := hc n s
    rw [zl_c_s] at q
    by_cases eg : e = g
    · subst eg
      rw [zl_c_cong e (N := N) (S := S) (fun j hj => ⟨pk_un (by omega), pk_un (by omega)⟩)]
      omega
    · have w := zl_c_rm (N := N) (S := S) (n := n) (s := s) (e := e) (g := g) g (by omega)
      omega
  · by_cases ei : i = e
    · subst ei
      rw [pk_us] at hs ⊢
      exact hV g (by omega) hs
    · rw [pk_un ei] at hs ⊢
      exact hV i (by omega) hs
theorem i_vc_remove {k : Nat} {u : SX} {v : SY} (I : i_Rel k u v) (hk : k + 3 ≤ 1536) (v1 : Int32) (v2 : Int32) : wpX_remove (fun r u' => wpY_remove (fun r' v' => r' = r ∧ i_Rel (k + 3) u' v') v v1 v2) u v1 v2 := by
  obtain ⟨h, l, c, N, S, V, la, lp, lr, pl, ro, rfl, rfl, R⟩ := I
  have hh := R.1
  obtain ⟨f, hf, fX, fY⟩ := zl_find N S V (nI c) v1 v2 hh
  unfold wpX_remove wpY_remove
  refine fX _ (nI c) la lp lr ?_
  rcases hf with rfl | ⟨e, he, rfl, _⟩
  · exact br_t rfl (fY _ (nI c) (nI l) pl ro (br_f (by decide) ⟨rfl, zl_rel R⟩))
  · obtain ⟨g, rfl⟩ : ∃ g, h = g + 1 := ⟨h - 1, by omega⟩
    have hie : vp_in (nI e) 24 := vp_in_nI (by omega) (by omega)
    have hig : vp_in (nI g) 24 := vp_in_nI (by omega) (by omega)
    have hce : (nI e).toNatClampNeg = e := nI_clamp (by omega)
    have hcg : (nI g).toNatClampNeg = g := nI_clamp (by omega)
    refine br_f (zl_nm1 (by omega)) (nm_r (nI_pred g) ⟨hig, hie, nm_e ⟨hig, hie, nm_e ⟨hig, hie, nm_e ?_⟩⟩⟩)
    refine fY _ (nI c) (nI l) pl ro (br_t (nI_pos' (by omega)) (nm_r (nI_pred g) ⟨hig, hie, nm_e ⟨hig, hie, nm_e ⟨hig, hie, nm_e ⟨rfl, ?_⟩⟩⟩⟩))
    rw [hce, hcg]
    exact zl_rel (zl_R_rm R he)
theorem i_vc_exists {k : Nat} {u : SX} {v : SY} (I : i_Rel k u v) (hk : k + 3 ≤ 1536) : wpX_exists (fun r => wpY_exists (fun r' => r' = r ∧ i_Rel (k + 3) u v) v) u := by
  obtain ⟨h, l, c, N, S, V, la, lp, lr, pl, ro, rfl, rfl, R⟩ := I
  have hh := R.1
  obtain ⟨r, hr, eX, eY⟩ := zl_ex N S V hh (nI c)
  unfold wpX_exists wpY_exists
  refine eX _ (nI c) la lp lr ?_
  rcases hr with rfl | rfl
  · exact br_t rfl (eY _ (nI c) (nI l) pl ro (br_t rfl ⟨rfl, zl_rel R⟩))
  · exact br_f (by decide) (eY _ (nI c) (nI l) pl ro (br_f (by decide) ⟨rfl, zl_rel R⟩))
/-- a sort that is none, or one that is -/
theorem zl_sort (s : Int32) : ((∀ post : Int32 → Prop, post 0 → wpX_isSort post s) ∧ (∀ post : Int32 → Prop, post 1 → wpY_bad post s)) ∨ ((∀ post : Int32 → Prop, post 1 → wpX_isSort post s) ∧ (∀ post : Int32 → Prop, post 0 → wpY_bad post s)) := by
  by_cases h1 : s < 1
  · exact Or.inl ⟨fun _ hp => br_t h1 hp, fun _ hp => br_t h1 hp⟩
  · by_cases h4 : 4 < s
    · exact Or.inl ⟨fun _ hp => br_f h1 (br_t h4 hp), fun _ hp => br_f h1 (br_f (Int32.not_le.mpr h4) hp)⟩
    · exact Or.inr ⟨fun _ hp => br_f h1 (br_f h4 hp), fun _ hp => br_f h1 (br_t (Int32.not_lt.mp h4) hp)⟩
theorem i_vc_look {k : Nat} {u : SX} {v : SY} (I : i_Rel k u v) (hk : k + 3 ≤ 1536) (v1 : Int32) : wpX_look (fun r u' => wpY_look (fun r' v' => r' = r ∧ i_Rel (k + 3) u' v') v v1) u v1 := by
  obtain ⟨h, l, c, N, S, V, la, lp, lr, pl, ro, rfl, rfl, R⟩ := I
  unfold wpX_look wpY_look
  rcases zl_sort v1 with ⟨sX, sY⟩ | ⟨sX, sY⟩
  · exact sX _ (br_t rfl (sY _ (br_f (by decide) ⟨rfl, zl_rel R⟩)))
  · obtain ⟨a, p, r, lX, lY⟩ := zl_look R.1 R.2.2.2.2 (zl_HU R) v1 (zl_k6 R)
    exact sX _ (br_f (by decide) (lX _ la lp lr (sY _ (br_t rfl (lY _ (nI l) pl ro ⟨rfl, zl_rel R⟩)))))
theorem i_vc_place {k : Nat} {u : SX} {v : SY} (I : i_Rel k u v) (hk : k + 3 ≤ 1536) (v1 : Int32) : wpX_place (fun r u' => wpY_place (fun r' v' => r' = r ∧ i_Rel (k + 3) u' v') v v1) u v1 := by
  obtain ⟨h, l, c, N, S, V, la, lp, lr, pl, ro, rfl, rfl, R⟩ := I
  unfold wpX_place wpY_place
  rcases zl_sort v1 with ⟨sX, sY⟩ | ⟨sX, sY⟩
  · exact sX _ (br_t rfl (sY _ (br_f (by decide) ⟨rfl, zl_rel R⟩)))
  · obtain ⟨a, p, r, lX, lY⟩ := zl_look R.1 R.2.2.2.2 (zl_HU R) v1 (zl_k6 R)
    exact sX _ (br_f (by decide) (lX _ la lp lr (sY _ (br_t rfl (lY _ (nI l) pl ro ⟨rfl, zl_rel R⟩)))))
theorem i_vc_rounds {k : Nat} {u : SX} {v : SY} (I : i_Rel k u v) (hk : k + 3 ≤ 1536) (v1 : Int32) : wpX_rounds (fun r u' => wpY_rounds (fun r' v' => r' = r ∧ i_Rel (k + 3) u' v') v v1) u v1 := by
  obtain ⟨h, l, c, N, S, V, la, lp, lr, pl, ro, rfl, rfl, R⟩ := I
  unfold wpX_rounds wpY_rounds
  rcases zl_sort v1 with ⟨sX, sY⟩ | ⟨sX, sY⟩
  · exact sX _ (br_t rfl (sY _ (br_f (by decide) ⟨rfl, zl_rel R⟩)))
  · obtain ⟨a, p, r, lX, lY⟩ := zl_look R.1 R.2.2.2.2 (zl_HU R) v1 (zl_k6 R)
    exact sX _ (br_f (by decide) (lX _ la lp lr (sY _ (br_t rfl (lY _ (nI l) pl ro ⟨rfl, zl_rel R⟩)))))
theorem i_vc_value {k : Nat} {u : SX} {v : SY} (I : i_Rel k u v) (hk : k + 3 ≤ 1536) (v1 : Int32) (v2 : Int32) : wpX_value (fun r u' => wpY_value (fun r' v' => r' = r ∧ i_Rel (k + 3) u' v') v v1 v2) u v1 v2 := by
  obtain ⟨h, l, c, N, S, V, la, lp, lr, pl, ro, rfl, rfl, R⟩ := I
  unfold wpX_value wpY_value
  rcases zl_sort v1 with ⟨sX, sY⟩ | ⟨sX, sY⟩
  · exact sX _ (br_t rfl (sY _ (br_f (by decide) ⟨rfl, zl_rel R⟩)))
  · obtain ⟨a, p, r, lX, lY⟩ := zl_look R.1 R.2.2.2.2 (zl_HU R) v1 (zl_k6 R)
    refine sX _ (br_f (by decide) (lX _ la lp lr ?_))
    by_cases a1 : a = 1
    · exact br_t a1 (zl_X_rank R.1 (sY _ (br_t rfl (lY _ (nI l) pl ro (br_t a1 (zl_Y_rank R.1 ⟨rfl, zl_rel R⟩))))))
    · by_cases a4 : a = 4
      · refine br_f a1 (br_t a4 (zl_X_rank R.1 (sY _ (br_t rfl (lY _ (nI l) pl ro (br_f a1 (br_t a4 ?_)))))))
        by_cases x0 : v2 = 0
        · subst x0
          exact br_t rfl (zl_Y_rank R.1 ⟨rfl, zl_rel R⟩)
        · refine br_f x0 ⟨?_, zl_rel R⟩
          exact (zl_rv_0 (zl_HU R p 4 (Or.inr rfl)) x0 h 0 (by omega)).symm
      · exact br_f a1 (br_f a4 (sY _ (br_t rfl (lY _ (nI l) pl ro (br_f a1 (br_f a4 ⟨rfl, zl_rel R⟩))))))
end
