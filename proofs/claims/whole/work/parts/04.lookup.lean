/-! looking up: both sides in lockstep, round by round -/
section
variable {N S V : Nat → Int32} {h : Nat}
theorem zl_c_ex {n s : Int32} : ∀ (i : Nat), ¬ zl_c N S n s i = 0 → ∃ e : Nat, e < i ∧ N e = n ∧ S e = s
  | 0, hz => absurd rfl hz
  | i + 1, hz => by
    by_cases q : N i = n ∧ S i = s
    · exact ⟨i, by omega, q.1, q.2⟩
    · rw [zl_c_n q] at hz
      obtain ⟨e, he, w⟩ := zl_c_ex i hz
      exact ⟨e, by omega, w⟩
/-- (d): the answer is there, or no data -/
theorem zl_fin (N S V : Nat → Int32) (hh : h ≤ 24) (sort m : Int32) : ∃ a : Int32, (∀ (post : SX → Prop) (J : Int32 → Int32 → Int32 → Prop) (x2 x3 fk la lp lr : Int32), post (fk, nI h, a, m, lr, N, S, V) → wX_lookUp_83 post J sort x2 x3 m (-1) fk (nI h) la lp lr N S V) ∧ (∀ (post : Int32 → SY → Prop) (fk lb pl ro : Int32), post a (nI h, fk, lb, m, ro, N, S, V) → wY_lookUp_81 post sort m (nI h) fk lb pl ro N S V) := by
  have hcl := zl_c_le (N := N) (S := S) (n := m) (s := sort) h
  by_cases z : zl_c N S m sort h = 0
  · refine ⟨2, fun post J x2 x3 fk la lp lr hp => br_t rfl (zl_X_sort hh (fun _ => br_t rfl hp) (fun e he hn hs => ?_)), fun post fk lb pl ro hp => ?_⟩
    · have := zl_c_pos he hn hs; omega
    · unfold wY_lookUp_81
      refine zl_Y_count hh ?_
      rw [z, nI_0]
      exact br_t (by decide) hp
  · refine ⟨1, fun post J x2 x3 fk la lp lr hp => br_t rfl (zl_X_sort hh (fun q => absurd q z) (fun e he hn hs => br_f (zl_nm1 (by omega)) hp)), fun post fk lb pl ro hp => ?_⟩
    unfold wY_lookUp_81
    exact zl_Y_count hh (br_f (nI_nle (by omega) (by omega)) hp)
/-- a round in which nothing is handed over -/
theorem zl_lu31 (hh : h ≤ 24) (HV : ∀ i, i < h → S i = 3 → ∃ j : Nat, j < 6561 ∧ V i = nI j) (HU : ∀ n s : Int32, s = 3 ∨ s = 4 → zl_c N S n s h ≤ 1) (sort : Int32) {t j n : Nat} (ht : t ≤ 5) (hj : j < 6561)
    (ih : t < 5 → ∀ q : Nat, q < 6561 → ∃ a p r : Int32, (∀ (post : SX → Prop) (fk la lp lr : Int32), post (fk, nI h, a, p, r, N, S, V) → wX_lookUp_7 post sort fk (nI h) la lp N S V n (nI q) (nI (t + 1)) lr) ∧ (∀ (post : Int32 → SY → Prop) (fk lb pl : Int32), post a (nI h, fk, lb, p, r, N, S, V) → wY_lookUp_10 post sort (nI h) fk lb N S V n (nI q) pl (nI (t + 1)))) :
    ∃ a p r : Int32, (∀ (post : SX → Prop) (fk la lp : Int32), post (fk, nI h, a, p, r, N, S, V) → wX_lookUp_31 post (wX_lookUp_7 post sort fk (nI h) la lp N S V n) sort (nI j) (nI t) (-1) fk (nI h) la lp (nI t) N S V) ∧ (∀ (post : Int32 → SY → Prop) (fk lb pl : Int32), post a (nI h, fk, lb, p, r, N, S, V) → wY_lookUp_32 post (wY_lookUp_10 post sort (nI h) fk lb N S V n) sort (nI j) (-1) (nI h) fk lb pl (nI t) N S V) := by
  obtain ⟨m, hm, mX, mY⟩ := zl_mt N S V hh hj
  have hneg : (-1 : Int32) < 0 := by decide
  rcases hm with rfl | ⟨i, hi, rfl⟩
  · exact ⟨3, nI j, nI t, fun post fk la lp hp => br_t rfl (mX _ fk la lp (nI t) (br_t rfl hp)), fun post fk lb pl hp => br_t hneg (br_t hneg (mY _ fk lb (nI j) (nI t) (br_f (by decide) hp)))⟩
  · have hi0 : (0 : Int32) ≤ nI i := nI_pos' hi
    have him : ¬ nI i = -1 := zl_nm1 hi
    have hcl := zl_c_le (N := N) (S := S) (n := nI i) (s := 3) h
    obtain ⟨a, fX, fY⟩ := zl_fin N S V hh sort (nI i)
    by_cases s3 : sort = 3
    · refine ⟨a, nI i, nI t, fun post fk la lp hp => br_t rfl (mX _ fk la lp (nI t) (br_f him (br_t s3 (fX post _ _ _ fk la lp (nI t) hp)))), fun post fk lb pl hp => br_t hneg (br_t hneg (mY _ fk lb (nI j) (nI t) (br_t hi0 (zl_Y_count hh ?_))))⟩
      exact br_c (fun _ => fY post fk lb (nI j) (nI t) hp) (fun _ => br_t s3 (fY post fk lb (nI j) (nI t) hp))
    · by_cases z : zl_c N S (nI i) 3 h = 0
      · refine ⟨a, nI i, nI t, fun post fk la lp hp => br_t rfl (mX _ fk la lp (nI t) (br_f him (br_f s3 (zl_X_sort hh (fun _ => fX post _ _ _ fk la lp (nI t) hp) (fun e he hn hs => ?_))))), fun post fk lb pl hp => br_t hneg (br_t hneg (mY _ fk lb (nI j) (nI t) (br_t hi0 (zl_Y_count hh ?_))))⟩
        · have := zl_c_pos he hn hs; omega
        · rw [z, nI_0]
          exact br_t rfl (fY post fk lb (nI j) (nI t) hp)
      · have hz : ¬ nI (zl_c N S (nI i) 3 h) = 0 := nI_ne0 (by omega) (by omega)
        obtain ⟨e, he, hn, hs⟩ := zl_c_ex h z
        have hu := HU (nI i) 3 (Or.inl rfl)
        have hrv : zl_rv N S V (nI i) 3 0 h h 0 = V e := zl_rv_u hu he hn hs h 0 (by omega) (by omega)
        have hce : (nI e).toNatClampNeg = e := nI_clamp (by omega)
        have hin : vp_in (nI e) 24 := vp_in_nI (by omega) (by omega)
        by_cases t5 : t = 5
        · subst t5
          refine ⟨5, nI j, nI 5, fun post fk la lp hp => br_t rfl (mX _ fk la lp (nI 5) (br_f him (br_f s3 (zl_X_sort hh (fun q => absurd q z) (fun e' he' hn' hs' => br_f (zl_nm1 (by omega)) (br_t rfl hp)))))), fun post fk lb pl hp => br_t hneg (br_t hneg (mY _ fk lb (nI j) (nI 5) (br_t hi0 (zl_Y_count hh (br_f hz (br_f s3 (br_t rfl hp)))))))⟩
        · have ht5 : ¬ nI t = 5 := by
            intro q
            exact t5 ((nI_eq (a := t) (b := 5) (by omega) (by omega)).mp q)
          obtain ⟨q, hq, hvq⟩ := HV e he hs
          obtain ⟨a, p, r, hX, hY⟩ := ih (by omega) q hq
          refine ⟨a, p, r, fun post fk la lp hp => br_t rfl (mX _ fk la lp (nI t) (br_f him (br_f s3 (zl_X_sort hh (fun q => absurd q z) (fun e' he' hn' hs' => br_f (zl_nm1 (by omega)) (br_f ht5 ?_)))))), fun post fk lb pl hp => br_t hneg (br_t hneg (mY _ fk lb (nI j) (nI t) (br_t hi0 (zl_Y_count hh (br_f hz (br_f s3 (br_f ht5 (zl_Y_rank hh ?_))))))))⟩
          · have ee : e' = e := zl_uni hu he' he hn' hs' hn hs
            subst ee
            refine ⟨hin, ?_⟩
            rw [hce]
            exact nm_r hvq (nm_r (nI_1 t) (hX post fk la lp (nI t) hp))
          · rw [hrv, hvq]
            exact nm_r (nI_1 t) (hY post fk lb (nI j) hp)
theorem zl_lu (hh : h ≤ 24) (HV : ∀ i, i < h → S i = 3 → ∃ j : Nat, j < 6561 ∧ V i = nI j) (HU : ∀ n s : Int32, s = 3 ∨ s = 4 → zl_c N S n s h ≤ 1) (sort : Int32) : ∀ (d t j : Nat), t + d = 5 → j < 6561 → ∃ a p r : Int32, (∀ (post : SX → Prop) (fk la lp lr : Int32), post (fk, nI h, a, p, r, N, S, V) → wX_lookUp_7 post sort fk (nI h) la lp N S V (d + 1) (nI j) (nI t) lr) ∧ (∀ (post : Int32 → SY → Prop) (fk lb pl : Int32), post a (nI h, fk, lb, p, r, N, S, V) → wY_lookUp_10 post sort (nI h) fk lb N S V (d + 1) (nI j) pl (nI t)) := by
  intro d
  induction d with
  | zero =>
    intro t j htd hj
    have h5 : ¬ (5 : Int32) < nI t := nI_nlt (a := 5) (by omega) (by decide)
    obtain ⟨a, p, r, X31, Y32⟩ := zl_lu31 (t := t) (n := 0) hh HV HU sort (by omega) hj (fun q => by omega)
    by_cases s4 : sort = 4
    · exact ⟨a, p, r, fun post fk la lp lr hp => br_f h5 (br_t s4 (X31 post fk la lp hp)), fun post fk lb pl hp => br_f h5 (br_t s4 (Y32 post fk lb pl hp))⟩
    · obtain ⟨o, ho, oX, oY⟩ := zl_ho N S V hh hj
      rcases ho with rfl | ⟨i, hi, rfl⟩
      · exact ⟨a, p, r, fun post fk la lp lr hp => br_f h5 (br_f s4 (oX _ fk la lp (nI t) (X31 post fk la lp hp))), fun post fk lb pl hp => br_f h5 (br_f s4 (oY _ fk lb pl (nI t) (Y32 post fk lb pl hp)))⟩
      · exact ⟨4, nI i, nI t, fun post fk la lp lr hp => br_f h5 (br_f s4 (oX _ fk la lp (nI t) (br_f (zl_nm1 hi) hp))), fun post fk lb pl hp => br_f h5 (br_f s4 (oY _ fk lb pl (nI t) (br_f (nI_pos hi) (br_f (nI_pos hi) hp))))⟩
  | succ d ih =>
    intro t j htd hj
    have h5 : ¬ (5 : Int32) < nI t := nI_nlt (a := 5) (by omega) (by decide)
    obtain ⟨a, p, r, X31, Y32⟩ := zl_lu31 (t := t) (n := d + 1) hh HV HU sort (by omega) hj (fun q q' hq' => ih (t + 1) q' (by omega) hq')
    by_cases s4 : sort = 4
    · exact ⟨a, p, r, fun post fk la lp lr hp => br_f h5 (br_t s4 (X31 post fk la lp hp)), fun post fk lb pl hp => br_f h5 (br_t s4 (Y32 post fk lb pl hp))⟩
    · obtain ⟨o, ho, oX, oY⟩ := zl_ho N S V hh hj
      rcases ho with rfl | ⟨i, hi, rfl⟩
      · exact ⟨a, p, r, fun post fk la lp lr hp => br_f h5 (br_f s4 (oX _ fk la lp (nI t) (X31 post fk la lp hp))), fun post fk lb pl hp => br_f h5 (br_f s4 (oY _ fk lb pl (nI t) (Y32 post fk lb pl hp)))⟩
      · exact ⟨4, nI i, nI t, fun post fk la lp lr hp => br_f h5 (br_f s4 (oX _ fk la lp (nI t) (br_f (zl_nm1 hi) hp))), fun post fk lb pl hp => br_f h5 (br_f s4 (oY _ fk lb pl (nI t) (br_f (nI_pos hi) (br_f (nI_pos hi) hp))))⟩
/-- the whole lookup: one answer, one place, one number of rounds -/
theorem zl_look (hh : h ≤ 24) (HV : ∀ i, i < h → S i = 3 → ∃ j : Nat, j < 6561 ∧ V i = nI j) (HU : ∀ n s : Int32, s = 3 ∨ s = 4 → zl_c N S n s h ≤ 1) (sort : Int32) {k : Nat} (hk : k < 6561) : ∃ a p r : Int32, (∀ (post : SX → Prop) (la lp lr : Int32), post (nI k, nI h, a, p, r, N, S, V) → wpX_lookUp post (nI k, nI h, la, lp, lr, N, S, V) sort) ∧ (∀ (post : Int32 → SY → Prop) (lb pl ro : Int32), post a (nI h, nI k, lb, p, r, N, S, V) → wpY_lookUp post (nI h, nI k, lb, pl, ro, N, S, V) sort) := by
  obtain ⟨a, p, r, hX, hY⟩ := zl_lu hh HV HU sort 4 1 k (by omega) hk
  exact ⟨a, p, r, fun post la lp lr hp => ⟨_, hX post (nI k) la lp lr hp⟩, fun post lb pl ro hp => ⟨_, hY post (nI k) lb pl hp⟩⟩
end
