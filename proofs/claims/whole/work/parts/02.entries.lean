/-! the loops over the entries: each side against one pure count -/
/-- how many of the first entries have the name and the sort -/
def zl_c (N S : Nat → Int32) (n s : Int32) : Nat → Nat
  | 0 => 0
  | i + 1 => zl_c N S n s i + (if N i = n ∧ S i = s then 1 else 0)
/-- how many of them have a value below v -/
def zl_l (N S V : Nat → Int32) (n s v : Int32) : Nat → Nat
  | 0 => 0
  | i + 1 => zl_l N S V n s v i + (if N i = n ∧ S i = s ∧ ¬ v ≤ V i then 1 else 0)
/-- the value that has x lesser ones, from entry i on -/
def zl_rv (N S V : Nat → Int32) (n s x : Int32) (h : Nat) : Nat → Nat → Int32
  | 0, _ => 0
  | d + 1, i => if N i = n ∧ S i = s ∧ nI (zl_l N S V n s (V i) h) = x then V i else zl_rv N S V n s x h d (i + 1)
section
variable {N S V : Nat → Int32} {n s v x : Int32} {h : Nat}
theorem zl_c_y {i : Nat} (hn : N i = n) (hs : S i = s) : zl_c N S n s (i + 1) = zl_c N S n s i + 1 := by
  show _ + (if _ then 1 else 0) = _
  rw [if_pos ⟨hn, hs⟩]
theorem zl_c_n {i : Nat} (hn : ¬ (N i = n ∧ S i = s)) : zl_c N S n s (i + 1) = zl_c N S n s i := by
  show _ + (if _ then 1 else 0) = _
  rw [if_neg hn]
  exact Nat.add_zero _
theorem zl_c_le (i : Nat) : zl_c N S n s i ≤ i := by
  induction i with
  | zero => exact Nat.le_refl 0
  | succ i ih =>
    by_cases q : N i = n ∧ S i = s
    · rw [zl_c_y q.1 q.2]; omega
    · rw [zl_c_n q]; omega
theorem zl_c_mono {i j : Nat} (hij : i ≤ j) : zl_c N S n s i ≤ zl_c N S n s j := by
  induction j with
  | zero => rw [show i = 0 by omega]; exact Nat.le_refl _
  | succ j ih =>
    by_cases e : i = j + 1
    · rw [e]; exact Nat.le_refl _
    · have q := ih (by omega)
      by_cases m : N j = n ∧ S j = s
      · rw [zl_c_y m.1 m.2]; omega
      · rw [zl_c_n m]; omega
theorem zl_c_pos {e : Nat} (he : e < h) (hn : N e = n) (hs : S e = s) : 0 < zl_c N S n s h := by
  have q := zl_c_mono (N := N) (S := S) (n := n) (s := s) (i := e + 1) (j := h) (by omega)
  rw [zl_c_y hn hs] at q
  omega
theorem zl_c_two {i j : Nat} (hij : i < j) (hj : j < h) (ni : N i = n) (si : S i = s) (nj : N j = n) (sj : S j = s) : 2 ≤ zl_c N S n s h := by
  have q := zl_c_pos (h := j) hij ni si
  have p := zl_c_mono (N := N) (S := S) (n := n) (s := s) (i := j + 1) (j := h) (by omega)
  rw [zl_c_y nj sj] at p
  omega
theorem zl_uni (hu : zl_c N S n s h ≤ 1) {i j : Nat} (hi : i < h) (hj : j < h) (ni : N i = n) (si : S i = s) (nj : N j = n) (sj : S j = s) : i = j := by
  rcases Nat.lt_trichotomy i j with q | q | q
  · have := zl_c_two q hj ni si nj sj; omega
  · exact q
  · have := zl_c_two q hi nj sj ni si; omega
theorem zl_l_y {i : Nat} (hn : N i = n) (hs : S i = s) (hv : ¬ v ≤ V i) : zl_l N S V n s v (i + 1) = zl_l N S V n s v i + 1 := by
  show _ + (if _ then 1 else 0) = _
  rw [if_pos ⟨hn, hs, hv⟩]
theorem zl_l_n {i : Nat} (hn : ¬ (N i = n ∧ S i = s ∧ ¬ v ≤ V i)) : zl_l N S V n s v (i + 1) = zl_l N S V n s v i := by
  show _ + (if _ then 1 else 0) = _
  rw [if_neg hn]
  exact Nat.add_zero _
theorem zl_l_0 : ∀ (i : Nat), (∀ j, j < i → N j = n → S j = s → v ≤ V j) → zl_l N S V n s v i = 0
  | 0, _ => rfl
  | i + 1, H => by
    rw [zl_l_n (fun q => q.2.2 (H i (by omega) q.1 q.2.1))]
    exact zl_l_0 i (fun j hj => H j (by omega))
theorem zl_l_u (hu : zl_c N S n s h ≤ 1) {e : Nat} (he : e < h) (hn : N e = n) (hs : S e = s) : zl_l N S V n s (V e) h = 0 :=
  zl_l_0 h (fun j hj nj sj => by rw [zl_uni hu hj he nj sj hn hs]; exact Int32.le_refl _)
theorem zl_rv_u (hu : zl_c N S n s h ≤ 1) {e : Nat} (he : e < h) (hn : N e = n) (hs : S e = s) : ∀ (d i : Nat), i + d = h → i ≤ e → zl_rv N S V n s 0 h d i = V e
  | 0, i, hd, hi => by omega
  | d + 1, i, hd, hi => by
    by_cases q : N i = n ∧ S i = s
    · have ei : i = e := zl_uni hu (by omega) he q.1 q.2 hn hs
      subst ei
      exact if_pos ⟨hn, hs, by rw [zl_l_u hu he hn hs]; exact nI_0⟩
    · have ne : i ≠ e := fun z => q (by rw [z]; exact ⟨hn, hs⟩)
      exact (if_neg (fun z => q ⟨z.1, z.2.1⟩)).trans (zl_rv_u hu he hn hs d (i + 1) (by omega) (by omega))
theorem zl_rv_0 (hu : zl_c N S n s h ≤ 1) (hx : ¬ x = 0) : ∀ (d i : Nat), i + d = h → zl_rv N S V n s x h d i = 0
  | 0, i, hd => rfl
  | d + 1, i, hd => by
    refine (if_neg (fun z => ?_)).trans (zl_rv_0 hu hx d (i + 1) (by omega))
    have q := z.2.2
    rw [zl_l_u hu (by omega) z.1 z.2.1, nI_0] at q
    exact hx q.symm
/-- countEntries -/
theorem zl_xc {post : Int32 → Prop} {fk la lp lr : Int32} (hh : h ≤ 24) (hp : post (nI (zl_c N S n s h))) : ∀ (d i m : Nat), i + d = h → d < m → wX_countEntries_5 post n s fk (nI h) la lp lr N S V m (nI (zl_c N S n s i)) (nI i)
  | 0, i, m + 1, hd, _ => by
    have e : i = h := by omega
    subst e
    exact br_t (nI_le (by omega) (by omega)) hp
  | d + 1, i, m + 1, hd, hm => by
    have q := zl_xc (fk := fk) (la := la) (lp := lp) (lr := lr) hh hp d (i + 1) m (by omega) (by omega)
    have hc : (nI i).toNatClampNeg = i := nI_clamp (by omega)
    have hin : vp_in (nI i) 24 := vp_in_nI (by omega) (by omega)
    refine br_f (nI_ge (by omega) (by omega)) ⟨hin, ?_⟩
    rw [hc]
    by_cases h1 : N i = n
    · refine br_t h1 ⟨hin, ?_⟩
      by_cases h2 : S i = s
      · rw [zl_c_y h1 h2] at q
        exact br_t h2 (nm_r (nI_1 _) (nm_r (nI_1 _) q))
      · rw [zl_c_n (fun z => h2 z.2)] at q
        exact br_f h2 (nm_r (nI_1 _) q)
    · rw [zl_c_n (fun z => h1 z.1)] at q
      exact br_f h1 (nm_r (nI_1 _) q)
theorem zl_X_count {post : Int32 → Prop} {fk la lp lr : Int32} (hh : h ≤ 24) (hp : post (nI (zl_c N S n s h))) : wpX_countEntries post (fk, nI h, la, lp, lr, N, S, V) n s := by
  have q := zl_xc (V := V) (fk := fk) (la := la) (lp := lp) (lr := lr) hh hp h 0 (h + 1) (by omega) (by omega)
  exact ⟨h + 1, q⟩
/-- count -/
theorem zl_yc {post : Int32 → Prop} {fk lb pl ro : Int32} (hh : h ≤ 24) (hp : post (nI (zl_c N S n s h))) : ∀ (d i m : Nat), i + d = h → d < m → wY_count_5 post n s (nI h) fk lb pl ro N S V m (nI (zl_c N S n s i)) (nI i)
  | 0, i, m + 1, hd, _ => by
    have e : i = h := by omega
    subst e
    exact br_t (nI_le (by omega) (by omega)) hp
  | d + 1, i, m + 1, hd, hm => by
    have q := zl_yc (fk := fk) (lb := lb) (pl := pl) (ro := ro) hh hp d (i + 1) m (by omega) (by omega)
    have hc : (nI i).toNatClampNeg = i := nI_clamp (by omega)
    have hin : vp_in (nI i) 24 := vp_in_nI (by omega) (by omega)
    refine br_f (nI_ge (by omega) (by omega)) ⟨hin, ?_⟩
    rw [hc]
    by_cases h1 : N i = n
    · refine br_t h1 ⟨hin, ?_⟩
      by_cases h2 : S i = s
      · rw [zl_c_y h1 h2] at q
        exact br_t h2 (nm_r (nI_1 _) (nm_r (nI_1 _) q))
      · rw [zl_c_n (fun z => h2 z.2)] at q
        exact br_f h2 (nm_r (nI_1 _) q)
    · rw [zl_c_n (fun z => h1 z.1)] at q
      exact br_f h1 (nm_r (nI_1 _) q)
theorem zl_Y_count {post : Int32 → Prop} {fk lb pl ro : Int32} (hh : h ≤ 24) (hp : post (nI (zl_c N S n s h))) : wpY_count post (nI h, fk, lb, pl, ro, N, S, V) n s := by
  have q := zl_yc (V := V) (fk := fk) (lb := lb) (pl := pl) (ro := ro) hh hp h 0 (h + 1) (by omega) (by omega)
  exact ⟨h + 1, q⟩
/-- findSort: none, or an entry -/
theorem zl_xs {post : Int32 → Prop} {fk la lp lr : Int32} (hh : h ≤ 24) (hn : zl_c N S n s h = 0 → post (-1)) (hf : ∀ e, e < h → N e = n → S e = s → post (nI e)) : ∀ (d i m : Nat), i + d = h → d < m → zl_c N S n s i = 0 → wX_findSort_2 post n s fk (nI h) la lp lr N S V m (nI i)
  | 0, i, m + 1, hd, _, h0 => by
    have e : i = h := by omega
    subst e
    exact br_t (nI_le (by omega) (by omega)) (hn h0)
  | d + 1, i, m + 1, hd, hm, h0 => by
    have q := zl_xs (fk := fk) (la := la) (lp := lp) (lr := lr) hh hn hf d (i + 1) m (by omega) (by omega)
    have hc : (nI i).toNatClampNeg = i := nI_clamp (by omega)
    have hin : vp_in (nI i) 24 := vp_in_nI (by omega) (by omega)
    refine br_f (nI_ge (by omega) (by omega)) ⟨hin, ?_⟩
    rw [hc]
    by_cases h1 : N i = n
    · refine br_t h1 ⟨hin, ?_⟩
      by_cases h2 : S i = s
      · exact br_t h2 (hf i (by omega) h1 h2)
      · exact br_f h2 (nm_r (nI_1 _) (q (by rw [zl_c_n (fun z => h2 z.2)]; exact h0)))
    · exact br_f h1 (nm_r (nI_1 _) (q (by rw [zl_c_n (fun z => h1 z.1)]; exact h0)))
theorem zl_X_sort {post : Int32 → Prop} {fk la lp lr : Int32} (hh : h ≤ 24) (hn : zl_c N S n s h = 0 → post (-1)) (hf : ∀ e, e < h → N e = n → S e = s → post (nI e)) : wpX_findSort post (fk, nI h, la, lp, lr, N, S, V) n s :=
  ⟨h + 1, zl_xs (V := V) (fk := fk) (la := la) (lp := lp) (lr := lr) hh hn hf h 0 (h + 1) (by omega) (by omega) rfl⟩
/-- findEntry and find in lockstep -/
theorem zl_fe (hh : h ≤ 24) : ∀ (d i : Nat), i + d = h → ∃ r : Int32, (r = -1 ∨ ∃ e : Nat, e < h ∧ r = nI e ∧ N e = n ∧ S e = s ∧ V e = v) ∧ (∀ (post : Int32 → Prop) (fk la lp lr : Int32), post r → wX_findEntry_3 post n s v fk (nI h) la lp lr N S V (d + 1) (nI i)) ∧ (∀ (post : Int32 → Prop) (fk lb pl ro : Int32), post r → wY_find_3 post n s v (nI h) fk lb pl ro N S V (d + 1) (nI i))
  | 0, i, hd => by
    have e : i = h := by omega
    subst e
    have hx : nI i ≤ nI i := nI_le (by omega) (by omega)
    exact ⟨-1, Or.inl rfl, fun _ _ _ _ _ hp => br_t hx hp, fun _ _ _ _ _ hp => br_t hx hp⟩
  | d + 1, i, hd => by
    obtain ⟨r, hr, hX, hY⟩ := zl_fe hh d (i + 1) (by omega)
    have hc : (nI i).toNatClampNeg = i := nI_clamp (by omega)
    have hin : vp_in (nI i) 24 := vp_in_nI (by omega) (by omega)
    have hg : ¬ nI h ≤ nI i := nI_ge (by omega) (by omega)
    by_cases h1 : N i = n
    · by_cases h2 : S i = s
      · by_cases h3 : V i = v
        · refine ⟨nI i, Or.inr ⟨i, by omega, rfl, h1, h2, h3⟩, fun post fk la lp lr hp => br_f hg ⟨hin, ?_⟩, fun post fk lb pl ro hp => br_f hg ⟨hin, ?_⟩⟩
          · rw [hc]; exact br_t h1 ⟨hin, br_t h2 ⟨hin, br_t h3 hp⟩⟩
          · rw [hc]; exact br_t h1 ⟨hin, br_t h2 ⟨hin, br_t h3 hp⟩⟩
        · refine ⟨r, hr, fun post fk la lp lr hp => br_f hg ⟨hin, ?_⟩, fun post fk lb pl ro hp => br_f hg ⟨hin, ?_⟩⟩
          · rw [hc]; exact br_t h1 ⟨hin, br_t h2 ⟨hin, br_f h3 (nm_r (nI_1 _) (hX post fk la lp lr hp))⟩⟩
          · rw [hc]; exact br_t h1 ⟨hin, br_t h2 ⟨hin, br_f h3 (nm_r (nI_1 _) (hY post fk lb pl ro hp))⟩⟩
      · refine ⟨r, hr, fun post fk la lp lr hp => br_f hg ⟨hin, ?_⟩, fun post fk lb pl ro hp => br_f hg ⟨hin, ?_⟩⟩
        · rw [hc]; exact br_t h1 ⟨hin, br_f h2 (nm_r (nI_1 _) (hX post fk la lp lr hp))⟩
        · rw [hc]; exact br_t h1 ⟨hin, br_f h2 (nm_r (nI_1 _) (hY post fk lb pl ro hp))⟩
    · refine ⟨r, hr, fun post fk la lp lr hp => br_f hg ⟨hin, ?_⟩, fun post fk lb pl ro hp => br_f hg ⟨hin, ?_⟩⟩
      · rw [hc]; exact br_f h1 (nm_r (nI_1 _) (hX post fk la lp lr hp))
      · rw [hc]; exact br_f h1 (nm_r (nI_1 _) (hY post fk lb pl ro hp))
theorem zl_find (N S V : Nat → Int32) (n s v : Int32) (hh : h ≤ 24) : ∃ r : Int32, (r = -1 ∨ ∃ e : Nat, e < h ∧ r = nI e ∧ N e = n ∧ S e = s ∧ V e = v) ∧ (∀ (post : Int32 → Prop) (fk la lp lr : Int32), post r → wpX_findEntry post (fk, nI h, la, lp, lr, N, S, V) n s v) ∧ (∀ (post : Int32 → Prop) (fk lb pl ro : Int32), post r → wpY_find post (nI h, fk, lb, pl, ro, N, S, V) n s v) := by
  obtain ⟨r, hr, hX, hY⟩ := zl_fe (N := N) (S := S) (V := V) (n := n) (s := s) (v := v) hh h 0 (by omega)
  exact ⟨r, hr, fun post fk la lp lr hp => ⟨_, hX post fk la lp lr hp⟩, fun post fk lb pl ro hp => ⟨_, hY post fk lb pl ro hp⟩⟩
/-- countLesser -/
theorem zl_xl {post : Int32 → Prop} {fk la lp lr : Int32} (hh : h ≤ 24) (hp : post (nI (zl_l N S V n s v h))) : ∀ (d i m : Nat), i + d = h → d < m → wX_countLesser_6 post n s v fk (nI h) la lp lr N S V m (nI (zl_l N S V n s v i)) (nI i)
  | 0, i, m + 1, hd, _ => by
    have e : i = h := by omega
    subst e
    exact br_t (nI_le (by omega) (by omega)) hp
  | d + 1, i, m + 1, hd, hm => by
    have q := zl_xl (fk := fk) (la := la) (lp := lp) (lr := lr) hh hp d (i + 1) m (by omega) (by omega)
    have hc : (nI i).toNatClampNeg = i := nI_clamp (by omega)
    have hin : vp_in (nI i) 24 := vp_in_nI (by omega) (by omega)
    refine br_f (nI_ge (by omega) (by omega)) ⟨hin, ?_⟩
    rw [hc]
    by_cases h1 : N i = n
    · refine br_t h1 ⟨hin, ?_⟩
      by_cases h2 : S i = s
      · refine br_t h2 ⟨hin, ?_⟩
        by_cases h3 : v ≤ V i
        · rw [zl_l_n (fun z => z.2.2 h3)] at q
          exact br_t h3 (nm_r (nI_1 _) q)
        · rw [zl_l_y h1 h2 h3] at q
          exact br_f h3 (nm_r (nI_1 _) (nm_r (nI_1 _) q))
      · rw [zl_l_n (fun z => h2 z.2.1)] at q
        exact br_f h2 (nm_r (nI_1 _) q)
    · rw [zl_l_n (fun z => h1 z.1)] at q
      exact br_f h1 (nm_r (nI_1 _) q)
theorem zl_X_less {post : Int32 → Prop} {fk la lp lr : Int32} (hh : h ≤ 24) (hp : post (nI (zl_l N S V n s v h))) : wpX_countLesser post (fk, nI h, la, lp, lr, N, S, V) n s v :=
  ⟨h + 1, zl_xl (fk := fk) (la := la) (lp := lp) (lr := lr) hh hp h 0 (h + 1) (by omega) (by omega)⟩
/-- the inner loop of valueOf -/
theorem zl_yl {post J : Int32 → Prop} {fk lb pl ro : Int32} {e : Nat} (he : e < h) (hh : h ≤ 24) (hp : nI (zl_l N S V n s (V e) h) = x → post (V e)) (hj : ¬ nI (zl_l N S V n s (V e) h) = x → J (nI (e + 1))) : ∀ (d i m : Nat), i + d = h → d < m → wY_valueOf_40 post J n s x (nI e) (nI h) fk lb pl ro N S V m (nI (zl_l N S V n s (V e) i)) (nI i)
  | 0, i, m + 1, hd, _ => by
    have e0 : i = h := by omega
    subst e0
    have hc : (nI e).toNatClampNeg = e := nI_clamp (by omega)
    have hin : vp_in (nI e) 24 := vp_in_nI (by omega) (by omega)
    refine br_t (nI_le (by omega) (by omega)) ?_
    rw [hc]
    exact br_c (fun z => ⟨hin, hp z⟩) (fun z => nm_r (nI_1 _) (hj z))
  | d + 1, i, m + 1, hd, hm => by
    have q := zl_yl (fk := fk) (lb := lb) (pl := pl) (ro := ro) he hh hp hj d (i + 1) m (by omega) (by omega)
    have hc : (nI i).toNatClampNeg = i := nI_clamp (by omega)
    have hce : (nI e).toNatClampNeg = e := nI_clamp (by omega)
    have hin : vp_in (nI i) 24 := vp_in_nI (by omega) (by omega)
    have hine : vp_in (nI e) 24 := vp_in_nI (by omega) (by omega)
    refine br_f (nI_ge (by omega) (by omega)) ⟨hin, ?_⟩
    rw [hc, hce]
    by_cases h1 : N i = n
    · refine br_t h1 ⟨hin, ?_⟩
      by_cases h2 : S i = s
      · refine br_t h2 ⟨hin, hine, ?_⟩
        by_cases h3 : V e ≤ V i
        · rw [zl_l_n (fun z => z.2.2 h3)] at q
          exact br_t h3 (nm_r (nI_1 _) q)
        · rw [zl_l_y h1 h2 h3] at q
          exact br_f h3 (nm_r (nI_1 _) (nm_r (nI_1 _) q))
      · rw [zl_l_n (fun z => h2 z.2.1)] at q
        exact br_f h2 (nm_r (nI_1 _) q)
    · rw [zl_l_n (fun z => h1 z.1)] at q
      exact br_f h1 (nm_r (nI_1 _) q)
/-- rankedValue -/
theorem zl_xr {post : Int32 → Prop} {fk la lp lr : Int32} (hh : h ≤ 24) : ∀ (d i : Nat), i + d = h → post (zl_rv N S V n s x h d i) → wX_rankedValue_3 post n s x fk (nI h) la lp lr N S V (d + 1) (nI i)
  | 0, i, hd, hp => by
    have e : i = h := by omega
    subst e
    exact br_t (nI_le (by omega) (by omega)) hp
  | d + 1, i, hd, hp => by
    have q := zl_xr (post := post) (fk := fk) (la := la) (lp := lp) (lr := lr) hh d (i + 1) (by omega)
    have hc : (nI i).toNatClampNeg = i := nI_clamp (by omega)
    have hin : vp_in (nI i) 24 := vp_in_nI (by omega) (by omega)
    have hp' : post (if N i = n ∧ S i = s ∧ nI (zl_l N S V n s (V i) h) = x then V i else zl_rv N S V n s x h d (i + 1)) := hp
    refine br_f (nI_ge (by omega) (by omega)) ⟨hin, ?_⟩
    rw [hc]
    by_cases h1 : N i = n
    · refine br_t h1 ⟨hin, ?_⟩
      by_cases h2 : S i = s
      · refine br_t h2 ⟨hin, zl_X_less hh ?_⟩
        by_cases h3 : nI (zl_l N S V n s (V i) h) = x
        · rw [if_pos ⟨h1, h2, h3⟩] at hp'
          exact br_t h3 ⟨hin, hp'⟩
        · rw [if_neg (fun z => h3 z.2.2)] at hp'
          exact br_f h3 (nm_r (nI_1 _) (q hp'))
      · rw [if_neg (fun z => h2 z.2.1)] at hp'
        exact br_f h2 (nm_r (nI_1 _) (q hp'))
    · rw [if_neg (fun z => h1 z.1)] at hp'
      exact br_f h1 (nm_r (nI_1 _) (q hp'))
theorem zl_X_rank {post : Int32 → Prop} {fk la lp lr : Int32} (hh : h ≤ 24) (hp : post (zl_rv N S V n s x h h 0)) : wpX_rankedValue post (fk, nI h, la, lp, lr, N, S, V) n s x :=
  ⟨h + 1, zl_xr (fk := fk) (la := la) (lp := lp) (lr := lr) hh h 0 (by omega) hp⟩
/-- valueOf -/
theorem zl_yr {post : Int32 → Prop} {fk lb pl ro : Int32} (hh : h ≤ 24) : ∀ (d i : Nat), i + d = h → post (zl_rv N S V n s x h d i) → wY_valueOf_3 post n s x (nI h) fk lb pl ro N S V (d + 1) (nI i)
  | 0, i, hd, hp => by
    have e : i = h := by omega
    subst e
    exact br_t (nI_le (by omega) (by omega)) hp
  | d + 1, i, hd, hp => by
    have q := zl_yr (post := post) (fk := fk) (lb := lb) (pl := pl) (ro := ro) hh d (i + 1) (by omega)
    have hc : (nI i).toNatClampNeg = i := nI_clamp (by omega)
    have hin : vp_in (nI i) 24 := vp_in_nI (by omega) (by omega)
    have hp' : post (if N i = n ∧ S i = s ∧ nI (zl_l N S V n s (V i) h) = x then V i else zl_rv N S V n s x h d (i + 1)) := hp
    refine br_f (nI_ge (by omega) (by omega)) ⟨hin, ?_⟩
    rw [hc]
    by_cases h1 : N i = n
    · refine br_t h1 ⟨hin, ?_⟩
      by_cases h2 : S i = s
      · refine br_t h2 ⟨h + 1, ?_⟩
        refine zl_yl (by omega) hh (fun h3 => ?_) (fun h3 => ?_) h 0 (h + 1) (by omega) (by omega)
        · rw [if_pos ⟨h1, h2, h3⟩] at hp'
          exact hp'
        · rw [if_neg (fun z => h3 z.2.2)] at hp'
          exact q hp'
      · rw [if_neg (fun z => h2 z.2.1)] at hp'
        exact br_f h2 (nm_r (nI_1 _) (q hp'))
    · rw [if_neg (fun z => h1 z.1)] at hp'
      exact br_f h1 (nm_r (nI_1 _) (q hp'))
theorem zl_Y_rank {post : Int32 → Prop} {fk lb pl ro : Int32} (hh : h ≤ 24) (hp : post (zl_rv N S V n s x h h 0)) : wpY_valueOf post (nI h, fk, lb, pl, ro, N, S, V) n s x :=
  ⟨h + 1, zl_yr (fk := fk) (lb := lb) (pl := pl) (ro := ro) hh h 0 (by omega) hp⟩
end
