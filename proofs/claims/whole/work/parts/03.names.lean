/-! the names: same or above, exists, the match, the hand-over; in lockstep -/
theorem zl_cvL (a : Int32) : ∀ (d c : Nat) (b : Int32), c + d = 4 → ∃ r : Int32, (r = 0 ∨ r = 1) ∧ (∀ post : Int32 → Prop, post r → wX_isSameOrAbove_4 post a (d + 1) b (nI c)) ∧ (∀ post : Int32 → Prop, post r → wY_covers_4 post a (d + 2) b (nI c))
  | 0, c, b, hc => by
    have e : c = 4 := by omega
    subst e
    have h4 : (4 : Int32) ≤ nI 4 := nI_le (a := 4) (b := 4) (by omega) (by decide)
    have h5 : ¬ (5 : Int32) ≤ nI 4 := nI_ge (b := 5) (by omega) (by decide)
    have h6 : (5 : Int32) ≤ nI 5 := nI_le (a := 5) (b := 5) (by omega) (by decide)
    by_cases q : b = a
    · exact ⟨1, Or.inr rfl, fun post hp => br_t h4 (br_t q hp), fun post hp => br_f h5 (br_t q hp)⟩
    · exact ⟨0, Or.inl rfl, fun post hp => br_t h4 (br_f q hp), fun post hp => br_f h5 (br_f q ⟨zl_n9, nm_e (nm_r (nI_1 4) (br_t h6 hp))⟩)⟩
  | d + 1, c, b, hc => by
    have h4 : ¬ (4 : Int32) ≤ nI c := nI_ge (b := 4) (by omega) (by decide)
    have h5 : ¬ (5 : Int32) ≤ nI c := nI_ge (b := 5) (by omega) (by decide)
    by_cases q : b = a
    · exact ⟨1, Or.inr rfl, fun post hp => br_f h4 (br_t q hp), fun post hp => br_f h5 (br_t q hp)⟩
    · obtain ⟨r, hr, hX, hY⟩ := zl_cvL a d (c + 1) (b / 9) (by omega)
      exact ⟨r, hr, fun post hp => br_f h4 (br_f q (zl_wl (nm_r (nI_1 c) (hX post hp)))), fun post hp => br_f h5 (br_f q ⟨zl_n9, nm_e (nm_r (nI_1 c) (hY post hp))⟩)⟩
theorem zl_cv (a b : Int32) : ∃ r : Int32, (r = 0 ∨ r = 1) ∧ (∀ post : Int32 → Prop, post r → wpX_isSameOrAbove post a b) ∧ (∀ post : Int32 → Prop, post r → wpY_covers post a b) := by
  obtain ⟨r, hr, hX, hY⟩ := zl_cvL a 4 0 b rfl
  rw [nI_0] at hX hY
  exact ⟨r, hr, fun post hp => ⟨_, hX post hp⟩, fun post hp => ⟨_, hY post hp⟩⟩
/-- one answer for both sides, whatever the other fields hold -/
def zl_XY (N S V : Nat → Int32) (h : Nat) (WX : (Int32 → Prop) → SX → Prop) (WY : (Int32 → Prop) → SY → Prop) (r : Int32) : Prop :=
  (∀ (post : Int32 → Prop) (fk la lp lr : Int32), post r → WX post (fk, nI h, la, lp, lr, N, S, V)) ∧ (∀ (post : Int32 → Prop) (fk lb pl ro : Int32), post r → WY post (nI h, fk, lb, pl, ro, N, S, V))
/-- none, or a number from 0 -/
def zl_nn (r : Int32) : Prop := r = -1 ∨ ∃ j : Nat, j < 2 ^ 31 ∧ r = nI j
section
variable {N S V : Nat → Int32} {h : Nat}
theorem zl_exL (hh : h ≤ 24) (n : Int32) (hn : ¬ n = 0) : ∀ (d i : Nat), i + d = h → ∃ r : Int32, (r = 0 ∨ r = 1) ∧ (∀ (post : Int32 → Prop) (fk la lp lr : Int32), post r → wX_nameExists_8 post n fk (nI h) la lp lr N S V (d + 1) (nI i)) ∧ (∀ (post : Int32 → Prop) (fk lb pl ro : Int32), post r → wY_there_2 post n (nI h) fk lb pl ro N S V (d + 1) (nI i))
  | 0, i, hd => by
    have e : i = h := by omega
    subst e
    have hx : nI i ≤ nI i := nI_le (by omega) (by omega)
    exact ⟨0, Or.inl rfl, fun _ _ _ _ _ hp => br_t hx hp, fun _ _ _ _ _ hp => br_t hx (br_f hn hp)⟩
  | d + 1, i, hd => by
    obtain ⟨r, hr, hX, hY⟩ := zl_exL hh n hn d (i + 1) (by omega)
    obtain ⟨q, hq, cX, cY⟩ := zl_cv n (N (nI i).toNatClampNeg)
    have hin : vp_in (nI i) 24 := vp_in_nI (by omega) (by omega)
    have hg : ¬ nI h ≤ nI i := nI_ge (by omega) (by omega)
    rcases hq with rfl | rfl
    · exact ⟨r, hr, fun post fk la lp lr hp => br_f hg ⟨hin, cX _ (br_t rfl (nm_r (nI_1 i) (hX post fk la lp lr hp)))⟩, fun post fk lb pl ro hp => br_f hg ⟨hin, cY _ (br_t rfl (nm_r (nI_1 i) (hY post fk lb pl ro hp)))⟩⟩
    · exact ⟨1, Or.inr rfl, fun post fk la lp lr hp => br_f hg ⟨hin, cX _ (br_f (by decide) hp)⟩, fun post fk lb pl ro hp => br_f hg ⟨hin, cY _ (br_f (by decide) hp)⟩⟩
theorem zl_ex0 (hh : h ≤ 24) {post : Int32 → Prop} {fk lb pl ro : Int32} (hp : post 1) : ∀ (d i : Nat), i + d = h → wY_there_2 post 0 (nI h) fk lb pl ro N S V (d + 1) (nI i)
  | 0, i, hd => by
    have e : i = h := by omega
    subst e
    exact br_t (nI_le (by omega) (by omega)) (br_t rfl hp)
  | d + 1, i, hd => by
    have q0 := zl_ex0 hh (fk := fk) (lb := lb) (pl := pl) (ro := ro) hp d (i + 1) (by omega)
    obtain ⟨q, hq, _, cY⟩ := zl_cv 0 (N (nI i).toNatClampNeg)
    have hin : vp_in (nI i) 24 := vp_in_nI (by omega) (by omega)
    have hg : ¬ nI h ≤ nI i := nI_ge (by omega) (by omega)
    rcases hq with rfl | rfl
    · exact br_f hg ⟨hin, cY _ (br_t rfl (nm_r (nI_1 i) q0))⟩
    · exact br_f hg ⟨hin, cY _ (br_f (by decide) hp)⟩
/-- nameExists and there -/
theorem zl_ex (N S V : Nat → Int32) (hh : h ≤ 24) (n : Int32) : ∃ r : Int32, (r = 0 ∨ r = 1) ∧ zl_XY N S V h (fun p u => wpX_nameExists p u n) (fun p v => wpY_there p v n) r := by
  by_cases hn : n = 0
  · subst hn
    exact ⟨1, Or.inr rfl, fun post fk la lp lr hp => br_t rfl hp, fun post fk lb pl ro hp => ⟨_, zl_ex0 hh hp h 0 (by omega)⟩⟩
  · obtain ⟨r, hr, hX, hY⟩ := zl_exL (N := N) (S := S) (V := V) hh n hn h 0 (by omega)
    exact ⟨r, hr, fun post fk la lp lr hp => br_f hn ⟨_, hX post fk la lp lr hp⟩, fun post fk lb pl ro hp => ⟨_, hY post fk lb pl ro hp⟩⟩
theorem zl_star {j : Nat} : nI j * 9 + 7 + 1 = nI (j * 9 + 8) ∧ nI j * 9 + 8 = nI (j * 9 + 8) := by
  have e9 : nI j * 9 = nI (j * 9) := pk_mul j 9
  have e7 : nI (j * 9) + 7 = nI (j * 9 + 7) := nI_add (j * 9) 7
  have e8 : nI (j * 9) + 8 = nI (j * 9 + 8) := nI_add (j * 9) 8
  rw [e9]
  exact ⟨by rw [e7, nI_1], e8⟩
/-- the star below the longest name above -/
theorem zl_mt41 (hh : h ≤ 24) {j : Nat} (hj : j < 6561) : ∃ r : Int32, zl_nn r ∧ (∀ (post : Int32 → Prop) (fk la lp lr : Int32), post r → wX_matchFor_41 post (nI j) fk (nI h) la lp lr N S V) ∧ (∀ (post : Int32 → Prop) (fk lb pl ro : Int32), post r → wY_answering_41 post (nI j) (nI h) fk lb pl ro N S V) := by
  obtain ⟨q, hq, cX, cY⟩ := zl_ex N S V hh (nI (j * 9 + 8))
  rcases hq with rfl | rfl
  · refine ⟨-1, Or.inl rfl, fun post fk la lp lr hp => ?_, fun post fk lb pl ro hp => nm_r zl_star.2 (cY _ fk lb pl ro (br_t rfl hp))⟩
    unfold wX_matchFor_41 wpX_withLabel
    rw [zl_star.1]
    exact cX _ fk la lp lr (br_t rfl hp)
  · refine ⟨nI (j * 9 + 8), Or.inr ⟨_, by omega, rfl⟩, fun post fk la lp lr hp => ?_, fun post fk lb pl ro hp => nm_r zl_star.2 (cY _ fk lb pl ro (br_f (by decide) hp))⟩
    unfold wX_matchFor_41 wpX_withLabel
    rw [zl_star.1]
    exact cX _ fk la lp lr (br_f (by decide) hp)
theorem zl_mt17 (hh : h ≤ 24) : ∀ (d c j : Nat), c + d = 4 → j < 6561 → ∃ r : Int32, zl_nn r ∧ (∀ (post : Int32 → Prop) (fk la lp lr : Int32), post r → wX_matchFor_17 post fk (nI h) la lp lr N S V (d + 1) (nI j) (nI c)) ∧ (∀ (post : Int32 → Prop) (fk lb pl ro : Int32), post r → wY_answering_17 post (nI h) fk lb pl ro N S V (d + 1) (nI j) (nI c))
  | 0, c, j, hc, hj => by
    have e : c = 4 := by omega
    subst e
    have h4 : (4 : Int32) ≤ nI 4 := nI_le (a := 4) (b := 4) (by omega) (by decide)
    obtain ⟨r, hr, hX, hY⟩ := zl_mt41 (N := N) (S := S) (V := V) hh hj
    exact ⟨r, hr, fun post fk la lp lr hp => br_t h4 (hX post fk la lp lr hp), fun post fk lb pl ro hp => br_t h4 (hY post fk lb pl ro hp)⟩
  | d + 1, c, j, hc, hj => by
    have h4 : ¬ (4 : Int32) ≤ nI c := nI_ge (b := 4) (by omega) (by decide)
    obtain ⟨q, hq, cX, cY⟩ := zl_ex N S V hh (nI j)
    rcases hq with rfl | rfl
    · obtain ⟨r, hr, hX, hY⟩ := zl_mt17 hh d (c + 1) (j / 9) (by omega) (by omega)
      exact ⟨r, hr, fun post fk la lp lr hp => br_f h4 (cX _ fk la lp lr (br_t rfl (zl_wn (by omega) (nm_r (nI_1 c) (hX post fk la lp lr hp))))), fun post fk lb pl ro hp => br_f h4 (cY _ fk lb pl ro (br_t rfl ⟨zl_n9, nm_r (zl_d9 (by omega)) (nm_r (nI_1 c) (hY post fk lb pl ro hp))⟩))⟩
    · obtain ⟨r, hr, hX, hY⟩ := zl_mt41 (N := N) (S := S) (V := V) hh hj
      exact ⟨r, hr, fun post fk la lp lr hp => br_f h4 (cX _ fk la lp lr (br_f (by decide) (hX post fk la lp lr hp))), fun post fk lb pl ro hp => br_f h4 (cY _ fk lb pl ro (br_f (by decide) (hY post fk lb pl ro hp)))⟩
/-- matchFor and answering -/
theorem zl_mt (N S V : Nat → Int32) (hh : h ≤ 24) {j : Nat} (hj : j < 6561) : ∃ r : Int32, zl_nn r ∧ zl_XY N S V h (fun p u => wpX_matchFor p u (nI j)) (fun p v => wpY_answering p v (nI j)) r := by
  obtain ⟨q, hq, cX, cY⟩ := zl_ex N S V hh (nI j)
  rcases hq with rfl | rfl
  · obtain ⟨r, hr, hX, hY⟩ := zl_mt17 (N := N) (S := S) (V := V) hh 4 0 (j / 9) rfl (by omega)
    rw [nI_0] at hX hY
    refine ⟨r, hr, fun post fk la lp lr hp => ?_, fun post fk lb pl ro hp => ?_⟩
    · dsimp only
      unfold wpX_matchFor
      exact cX _ fk la lp lr (br_t rfl (zl_wn (by omega) ⟨_, hX post fk la lp lr hp⟩))
    · dsimp only
      unfold wpY_answering
      exact cY _ fk lb pl ro (br_t rfl ⟨zl_n9, nm_r (zl_d9 (by omega)) ⟨_, hY post fk lb pl ro hp⟩⟩)
  · refine ⟨nI j, Or.inr ⟨j, by omega, rfl⟩, fun post fk la lp lr hp => ?_, fun post fk lb pl ro hp => ?_⟩
    · dsimp only
      unfold wpX_matchFor
      exact cX _ fk la lp lr (br_f (by decide) hp)
    · dsimp only
      unfold wpY_answering
      exact cY _ fk lb pl ro (br_f (by decide) hp)
/-- shortestHandOver and handed -/
theorem zl_hoL (hh : h ≤ 24) : ∀ (d c j : Nat) (b : Int32), c + d = 4 → j < 6561 → zl_nn b → ∃ r : Int32, zl_nn r ∧ (∀ (post : Int32 → Prop) (fk la lp lr : Int32), post r → wX_shortestHandOver_7 post fk (nI h) la lp lr N S V (d + 1) b (nI j) (nI c)) ∧ (∀ (post : Int32 → Prop) (fk lb pl ro : Int32), post r → wY_handed_7 post (nI h) fk lb pl ro N S V (d + 1) b (nI j) (nI c))
  | 0, c, j, b, hc, hj, hb => by
    have e : c = 4 := by omega
    subst e
    have h4 : (4 : Int32) ≤ nI 4 := nI_le (a := 4) (b := 4) (by omega) (by decide)
    exact ⟨b, hb, fun post fk la lp lr hp => br_t h4 hp, fun post fk lb pl ro hp => br_t h4 hp⟩
  | d + 1, c, j, b, hc, hj, hb => by
    have h4 : ¬ (4 : Int32) ≤ nI c := nI_ge (b := 4) (by omega) (by decide)
    by_cases j0 : j = 0
    · subst j0
      exact ⟨b, hb, fun post fk la lp lr hp => br_f h4 (br_t nI_0 hp), fun post fk lb pl ro hp => br_f h4 (br_t (by rw [nI_0]; decide) hp)⟩
    · have h0 : ¬ nI j = 0 := nI_ne0 (by omega) (by omega)
      have h0' : ¬ nI j ≤ 0 := nI_nle (by omega) (by omega)
      have hcl := zl_c_le (N := N) (S := S) (n := nI j) (s := 4) h
      by_cases z : zl_c N S (nI j) 4 h = 0
      · obtain ⟨r, hr, hX, hY⟩ := zl_hoL hh d (c + 1) (j / 9) b (by omega) (by omega) hb
        refine ⟨r, hr, fun post fk la lp lr hp => br_f h4 (br_f h0 (zl_X_sort hh (fun _ => ?_) (fun e he hn hs => ?_))), fun post fk lb pl ro hp => br_f h4 (br_f h0' (zl_Y_count hh ?_))⟩
        · exact br_t rfl (zl_wn (by omega) (nm_r (nI_1 c) (hX post fk la lp lr hp)))
        · have := zl_c_pos he hn hs; omega
        · rw [z, nI_0]
          exact br_t (by decide) ⟨zl_n9, nm_r (zl_d9 (by omega)) (nm_r (nI_1 c) (hY post fk lb pl ro hp))⟩
      · obtain ⟨r, hr, hX, hY⟩ := zl_hoL hh d (c + 1) (j / 9) (nI j) (by omega) (by omega) (Or.inr ⟨j, by omega, rfl⟩)
        refine ⟨r, hr, fun post fk la lp lr hp => br_f h4 (br_f h0 (zl_X_sort hh (fun q => absurd q z) (fun e he hn hs => ?_))), fun post fk lb pl ro hp => br_f h4 (br_f h0' (zl_Y_count hh ?_))⟩
        · exact br_f (zl_nm1 (by omega)) (zl_wn (by omega) (nm_r (nI_1 c) (hX post fk la lp lr hp)))
        · exact br_f (nI_nle (by omega) (by omega)) ⟨zl_n9, nm_r (zl_d9 (by omega)) (nm_r (nI_1 c) (hY post fk lb pl ro hp))⟩
theorem zl_ho (N S V : Nat → Int32) (hh : h ≤ 24) {j : Nat} (hj : j < 6561) : ∃ r : Int32, zl_nn r ∧ zl_XY N S V h (fun p u => wpX_shortestHandOver p u (nI j)) (fun p v => wpY_handed p v (nI j)) r := by
  obtain ⟨r, hr, hX, hY⟩ := zl_hoL (N := N) (S := S) (V := V) hh 4 0 j (-1) rfl hj (Or.inl rfl)
  rw [nI_0] at hX hY
  exact ⟨r, hr, fun post fk la lp lr hp => ⟨_, hX post fk la lp lr hp⟩, fun post fk lb pl ro hp => ⟨_, hY post fk lb pl ro hp⟩⟩
end
