/-! the relation, and what is owed -/
/-- how many entries of a sort a name may have -/
def zl_mx (s : Int32) : Nat := if s = 3 ∨ s = 4 then 1 else 3
/-- h entries are held, the key is k with l labels -/
def zl_R (h l k : Nat) (N S V : Nat → Int32) : Prop :=
  h ≤ 24 ∧ l ≤ 4 ∧ zl_nm l k ∧ (∀ n s : Int32, zl_c N S n s h ≤ zl_mx s) ∧ (∀ i, i < h → S i = 3 → ∃ j : Nat, j < 6561 ∧ V i = nI j)
def i_Rel (k : Nat) (u : SX) (v : SY) : Prop :=
  ∃ (h l c : Nat) (N S V : Nat → Int32) (la lp lr pl ro : Int32), u = (nI c, nI h, la, lp, lr, N, S, V) ∧ v = (nI h, nI c, nI l, pl, ro, N, S, V) ∧ zl_R h l c N S V
theorem i_up {k : Nat} {u : SX} {v : SY} (h : i_Rel k u v) : i_Rel (k + 3) u v := h
theorem zl_c0 {N S : Nat → Int32} {n s : Int32} : zl_c N S n s 0 = 0 := rfl
theorem i_vc0 : wpX_init (fun u => wpY_init (fun v => i_Rel 0 u v)) :=
  ⟨0, 0, 0, _, _, _, _, _, _, _, _, rfl, rfl, by omega, by omega, rfl, fun n s => Nat.zero_le _, fun i hi => absurd hi (Nat.not_lt_zero i)⟩
theorem zl_mx1 {s : Int32} (hs : s = 3 ∨ s = 4) : zl_mx s = 1 := if_pos hs
theorem zl_HU {h l k : Nat} {N S V : Nat → Int32} (R : zl_R h l k N S V) (n s : Int32) (hs : s = 3 ∨ s = 4) : zl_c N S n s h ≤ 1 := by
  have q := R.2.2.2.1 n s
  rw [zl_mx1 hs] at q
  exact q
theorem zl_k6 {h l k : Nat} {N S V : Nat → Int32} (R : zl_R h l k N S V) : k < 6561 := zl_nm_lt4 R.2.1 R.2.2.1
theorem i_vc_label {k : Nat} {u : SX} {v : SY} (I : i_Rel k u v) (hk : k + 3 ≤ 1536) (v1 : Int32) : wpX_label (fun r u' => wpY_label (fun r' v' => r' = r ∧ i_Rel (k + 3) u' v') v v1) u v1 := by
  obtain ⟨h, l, c, N, S, V, la, lp, lr, pl, ro, rfl, rfl, R⟩ := I
  have R' := R
  obtain ⟨hh, hl, hn, hc, hv⟩ := R
  unfold wpX_label
  refine zl_labelCount hn hl ?_
  by_cases l4 : l = 4
  · subst l4
    refine br_f (nI_nlt (b := 4) (by omega) (by decide)) (br_t rfl ⟨rfl, ?_⟩)
    exact ⟨h, 4, c, N, S, V, la, lp, lr, pl, ro, rfl, rfl, R'⟩
  · have hlt : nI l < 4 := nI_lt (b := 4) (by omega) (by decide)
    have hne : ¬ nI l = 4 := fun q => l4 ((nI_eq (a := l) (b := 4) (by omega) (by omega)).mp q)
    obtain ⟨j, hj, ej⟩ := pk_andE v1 (m := 7) 3 (by decide)
    have hj8 : j < 8 := hj
    have ek : nI c * 9 + (v1 &&& 7) + 1 = nI (c * 9 + j + 1) := by
      have e9 : nI c * 9 = nI (c * 9) := pk_mul c 9
      rw [ej, e9, nI_add, nI_1]
    refine br_t hlt ?_
    unfold wpX_withLabel
    rw [ek]
    refine br_f hne (nm_r ek (nm_r (nI_1 l) ⟨(nI_1 l).symm, ?_⟩))
    exact ⟨h, l + 1, c * 9 + j + 1, N, S, V, la, lp, lr, pl, ro, rfl, rfl, hh, by omega, zl_nm_add hn hj8, hc, hv⟩
theorem i_vc_back {k : Nat} {u : SX} {v : SY} (I : i_Rel k u v) (hk : k + 3 ≤ 1536) : wpX_back (fun r u' => wpY_back (fun r' v' => r' = r ∧ i_Rel (k + 3) u' v') v) u := by
  obtain ⟨h, l, c, N, S, V, la, lp, lr, pl, ro, rfl, rfl, R⟩ := I
  have R' := R
  have c6 := zl_k6 R
  obtain ⟨hh, hl, hn, hc, hv⟩ := R
  cases l with
  | zero =>
    have e : c = 0 := hn
    subst e
    exact br_t nI_0 (br_t nI_0 ⟨rfl, h, 0, 0, N, S, V, la, lp, lr, pl, ro, rfl, rfl, R'⟩)
  | succ l =>
    have hc0 : ¬ nI c = 0 := nI_ne0 (zl_nm_pos hn) (by omega)
    have hl0 : ¬ nI (l + 1) = 0 := nI_ne0 (by omega) (by omega)
    refine br_f hc0 ⟨zl_n9, nm_e (zl_wn (by omega) (br_f hl0 ⟨zl_n9, nm_e ⟨zl_n9, nm_r (zl_d9 (by omega)) (nm_r (nI_pred l) ⟨rfl, ?_⟩)⟩⟩))⟩
    exact ⟨h, l, c / 9, N, S, V, la, lp, lr, pl, ro, rfl, rfl, hh, by omega, hn.2, hc, hv⟩
theorem i_vc_erase {k : Nat} {u : SX} {v : SY} (I : i_Rel k u v) (hk : k + 3 ≤ 1536) : wpX_erase (fun u' => wpY_erase (fun v' => i_Rel (k + 3) u' v') v) u := by
  obtain ⟨h, l, c, N, S, V, la, lp, lr, pl, ro, rfl, rfl, R⟩ := I
  exact ⟨h, 0, 0, N, S, V, la, lp, lr, pl, ro, rfl, rfl, R.1, by omega, rfl, R.2.2.2⟩
theorem i_vc_number {k : Nat} {u : SX} {v : SY} (I : i_Rel k u v) (hk : k + 3 ≤ 1536) : wpX_number (fun r => wpY_number (fun r' => r' = r ∧ i_Rel (k + 3) u v) v) u := by
  obtain ⟨h, l, c, N, S, V, la, lp, lr, pl, ro, rfl, rfl, R⟩ := I
  exact ⟨rfl, h, l, c, N, S, V, la, lp, lr, pl, ro, rfl, rfl, R⟩
/-! add -/
theorem zl_c_cong {N S N' S' : Nat → Int32} {n s : Int32} : ∀ (i : Nat), (∀ j, j < i → N' j = N j ∧ S' j = S j) → zl_c N' S' n s i = zl_c N S n s i
  | 0, _ => rfl
  | i + 1, H => by
    have q := zl_c_cong (n := n) (s := s) i (fun j hj => H j (by omega))
    have e := H i (by omega)
    by_cases m : N i = n ∧ S i = s
    · rw [zl_c_y m.1 m.2, zl_c_y (e.1.trans m.1) (e.2.trans m.2), q]
    · rw [zl_c_n m, zl_c_n (by rw [e.1, e.2]; exact m), q]
theorem zl_R_add {h l c : Nat} {N S V : Nat → Int32} {s v : Int32} (R : zl_R h l c N S V) (h24 : h < 24) (hm : zl_c N S (nI c) s h < zl_mx s) (hv : s = 3 → ∃ j : Nat, j < 6561 ∧ v = nI j) : zl_R (h + 1) l c (upd N h (nI c)) (upd S h s) (upd V h v) := by
  obtain ⟨hh, hl, hn, hc, hV⟩ := R
  refine ⟨by omega, hl, hn, fun n s' => ?_, fun i hi hs => ?_⟩
  · have q : zl_c (upd N h (nI c)) (upd S h s) n s' h = zl_c N S n s' h := zl_c_cong h (fun j hj => ⟨pk_un (by omega), pk_un (by omega)⟩)
    by_cases m : nI c = n ∧ s = s'
    · rw [zl_c_y (pk_us.trans m.1) (pk_us.trans m.2), q, ← m.1, ← m.2]
      omega
    · rw [zl_c_n (by rw [pk_us, pk_us]; exact m), q]
      exact hc n s'
  · by_cases e : i = h
    · subst e
      rw [pk_us] at hs ⊢
      exact hv hs
    · rw [pk_un e] at hs ⊢
      exact hV i (by omega) hs
theorem zl_rel {k h l c : Nat} {N S V : Nat → Int32} {la lp lr pl ro : Int32} (R : zl_R h l c N S V) : i_Rel k (nI c, nI h, la, lp, lr, N, S, V) (nI h, nI c, nI l, pl, ro, N, S, V) :=
  ⟨h, l, c, N, S, V, la, lp, lr, pl, ro, rfl, rfl, R⟩
/-- the sorts from 1 to 4 -/
theorem zl_sorts {s : Int32} (h1 : ¬ s < 1) (h4 : ¬ 4 < s) : s = 1 ∨ s = 2 ∨ s = 3 ∨ s = 4 := by
  have h0 : ¬ s < 0 := fun q => h1 (Int32.lt_trans q (by decide))
  obtain ⟨j, hj, rfl⟩ := nI_of h0
  have a : ¬ j < 1 := fun q => h1 (nI_lt (b := 1) q (by decide))
  have b : ¬ 4 < j := fun q => h4 (nI_lt (a := 4) q hj)
  rcases (by omega : j = 1 ∨ j = 2 ∨ j = 3 ∨ j = 4) with rfl | rfl | rfl | rfl
  · exact Or.inl rfl
  · exact Or.inr (Or.inl rfl)
  · exact Or.inr (Or.inr (Or.inl rfl))
  · exact Or.inr (Or.inr (Or.inr rfl))
/-- both sides' most: zl_mx -/
theorem zl_most {s : Int32} {post : Int32 → Prop} (hp : post (nI (zl_mx s))) : wpX_mostEntries post s := by
  by_cases s3 : s = 3
  · rw [zl_mx1 (Or.inl s3)] at hp
    exact br_t s3 hp
  · by_cases s4 : s = 4
    · rw [zl_mx1 (Or.inr s4)] at hp
      exact br_f s3 (br_t s4 hp)
    · rw [show zl_mx s = 3 from if_neg (fun q => q.elim s3 s4)] at hp
      exact br_f s3 (br_f s4 hp)
theorem zl_Y65 {s : Int32} (h1 : ¬ s < 1) (h4 : ¬ 4 < s) {P : Int32 → Prop} (hp : P (nI (zl_mx s))) : (2 < s → P 1) ∧ (¬ 2 < s → P 3) := by
  rcases zl_sorts h1 h4 with rfl | rfl | rfl | rfl
  · exact br_f (by decide) hp
  · exact br_f (by decide) hp
  · exact br_t (by decide) hp
  · exact br_t (by decide) hp
theorem zl_add {k h l c : Nat} {N S V : Nat → Int32} {la lp lr pl ro s v : Int32} {Q : Int32 → SX → Prop} (R : zl_R h l c N S V) (h24 : h < 24) (h1 : ¬ s < 1) (h4 : ¬ 4 < s) (hv : s = 3 → ∃ j : Nat, j < 6561 ∧ v = nI j) (HQ : ∀ (r : Int32) (u' : SX), wY_add_22 (fun r' v' => r' = r ∧ i_Rel k u' v') s v (nI h) (nI c) (nI l) pl ro N S V → Q r u') : wX_add_32 Q s v (nI c) (nI h) la lp lr N S V := by
  have hh : h ≤ 24 := by omega
  have ne24 : ¬ nI h = 24 := fun q => by
    have := (nI_eq (a := h) (b := 24) (by omega) (by omega)).mp q
    omega
  have hin : vp_in (nI h) 24 := vp_in_nI h24 (by omega)
  have hcl : (nI h).toNatClampNeg = h := nI_clamp (by omega)
  have hcm := R.2.2.2.1 (nI c) s
  have mxb : zl_mx s ≤ 3 := by
    unfold zl_mx
    split <;> omega
  obtain ⟨f, hf, fX, fY⟩ := zl_find N S V (nI c) s v hh
  unfold wX_add_32
  refine zl_X_count hh (zl_most ?_)
  by_cases full : zl_c N S (nI c) s h = zl_mx s
  · refine br_t (nI_le (by omega) (by omega)) (HQ _ _ (br_f ne24 (fY _ (nI c) (nI l) pl ro ?_)))
    refine br_c (fun _ => ⟨rfl, zl_rel R⟩) (fun _ => zl_Y_count hh ?_)
    refine zl_Y65 (P := fun z => wY_add_65 _ s v z _ _ _ _ _ _ _ _ _) h1 h4 ?_
    exact br_t (by rw [full]) ⟨rfl, zl_rel R⟩
  · refine br_f (nI_ge (by omega) (by omega)) (fX _ (nI c) la lp lr ?_)
    rcases hf with rfl | ⟨e, he, rfl, _⟩
    · refine br_t rfl ⟨hin, nm_e ⟨hin, nm_e ⟨hin, nm_e (nm_r (nI_1 h) (HQ _ _ ?_))⟩⟩⟩
      refine br_f ne24 (fY _ (nI c) (nI l) pl ro (br_f (by decide) (zl_Y_count hh ?_)))
      refine zl_Y65 (P := fun z => wY_add_65 _ s v z _ _ _ _ _ _ _ _ _) h1 h4 ?_
      refine br_f (fun q => full ((nI_eq (by omega) (by omega)).mp q)) ⟨hin, nm_e ⟨hin, nm_e ⟨hin, nm_e (nm_r (nI_1 h) ⟨rfl, ?_⟩)⟩⟩⟩
      rw [hcl]
      exact zl_rel (zl_R_add R h24 (by omega) hv)
    · refine br_f (zl_nm1 (by omega)) (HQ _ _ (br_f ne24 (fY _ (nI c) (nI l) pl ro (br_t (nI_pos' (by omega)) ⟨rfl, zl_rel R⟩))))
theorem i_vc_add {k : Nat} {u : SX} {v : SY} (I : i_Rel k u v) (hk : k + 3 ≤ 1536) (v1 : Int32) (v2 : Int32) : wpX_add (fun r u' => wpY_add (fun r' v' => r' = r ∧ i_Rel (k + 3) u' v') v v1 v2) u v1 v2 := by
  obtain ⟨h, l, c, N, S, V, la, lp, lr, pl, ro, rfl, rfl, R⟩ := I
  have hh := R.1
  unfold wpX_add
  by_cases h1 : v1 < 1
  · exact br_t h1 (br_t rfl (br_t h1 ⟨rfl, zl_rel R⟩))
  · by_cases h4 : 4 < v1
    · exact br_f h1 (br_t h4 (br_t rfl (br_f h1 (br_t h4 ⟨rfl, zl_rel R⟩))))
    · refine br_f h1 (br_f h4 (br_f (by decide) ?_))
      obtain ⟨r, hr, iX, iY⟩ := zl_isName v2
      by_cases h24 : h < 24
      · refine br_t (nI_lt (b := 24) h24 (by decide)) ?_
        by_cases s3 : v1 = 3
        · rcases hr with rfl | ⟨rfl, hj⟩
          · exact br_t s3 (iX _ (br_t rfl (br_f h1 (br_f h4 (br_t s3 (iY _ (br_t rfl ⟨rfl, zl_rel R⟩)))))))
          · exact br_t s3 (iX _ (br_f (by decide) (zl_add (k := k + 3) (pl := pl) (ro := ro) R h24 h1 h4 (fun _ => hj) (fun r u' w => br_f h1 (br_f h4 (br_t s3 (iY _ (br_f (by decide) w))))))))
        · exact br_f s3 (zl_add (k := k + 3) (pl := pl) (ro := ro) R h24 h1 h4 (fun q => absurd q s3) (fun r u' w => br_f h1 (br_f h4 (br_f s3 w))))
      · have e : h = 24 := by omega
        subst e
        refine br_f (nI_nlt (a := 24) (b := 24) (by omega) (by decide)) (br_f h1 (br_f h4 ?_))
        by_cases s3 : v1 = 3
        · rcases hr with rfl | ⟨rfl, hj⟩
          · exact br_t s3 (iY _ (br_t rfl ⟨rfl, zl_rel R⟩))
          · exact br_t s3 (iY _ (br_f (by decide) (br_t rfl ⟨rfl, zl_rel R⟩)))
        · exact br_f s3 (br_t rfl ⟨rfl, zl_rel R⟩)
/-! remove -/
/-- 1 where entry i is of the name and the sort -/
def zl_i (N S : Nat → Int32) (n s : Int32) (i : Nat) : Nat := if N i = n ∧ S i = s then 1 else 0
theorem zl_c_s {N S : Nat → Int32} {n s : Int32} (i : Nat) : zl_c N S n s (i + 1) = zl_c N S n s i + zl_i N S n s i := rfl
theorem zl_c_rm {N S : Nat → Int32} {n s : Int32} {e g : Nat} : ∀ (i : Nat), e < i → zl_c (upd N e (N g)) (upd S e (S g)) n s i + zl_i N S n s e = zl_c N S n s i + zl_i N S n s g
  | i + 1, he => by
    rw [zl_c_s, zl_c_s]
    by_cases q : e = i
    · subst q
      have a : zl_c (upd N e (N g)) (upd S e (S g)) n s e = zl_c N S n s e := zl_c_cong e (fun j hj => ⟨pk_un (by omega), pk_un (by omega)⟩)
      have b : zl_i (upd N e (N g)) (upd S e (S g)) n s e = zl_i N S n s g := by
        unfold zl_i
        rw [pk_us, pk_us]
      rw [a, b]
      omega
    · have w := zl_c_rm (N := N) (S := S) (n := n) (s := s) (e := e) (g := g) i (by omega)
      have b : zl_i (upd N e (N g)) (upd S e (S g)) n s i = zl_i N S n s i := by
        unfold zl_i
        rw [pk_un (fun z => q z.symm), pk_un (fun z => q z.symm)]
      rw [b]
      omega
theorem zl_R_rm {g e l c : Nat} {N S V : Nat → Int32} (R : zl_R (g + 1) l c N S V) (he : e < g + 1) : zl_R g l c (upd N e (N g)) (upd S e (S g)) (upd V e (V g)) := by
  obtain ⟨hh, hl, hn, hc, hV⟩ := R
  refine ⟨by omega, hl, hn, fun n s => ?_, fun i hi hs => ?_⟩
  · have q := hc n s
    rw [zl_c_s] at q
    by_cases eg : e = g
    · subst eg
      rw [zl_c_cong e (N := N) (S := S) (fun j hj => ⟨pk_un (by omega), pk_un (by omega)⟩)]
      omega
    · have w := zl_c_rm (N := N) (S := S) (n := n) (s := s) (e := e) (g := g) g (by omega)
      omega
  · by_cases ei : i = e
    · subst ei
      rw [pk_us] at hs ⊢
      exact hV g (by omega) hs
    · rw [pk_un ei] at hs ⊢
      exact hV i (by omega) hs
theorem i_vc_remove {k : Nat} {u : SX} {v : SY} (I : i_Rel k u v) (hk : k + 3 ≤ 1536) (v1 : Int32) (v2 : Int32) : wpX_remove (fun r u' => wpY_remove (fun r' v' => r' = r ∧ i_Rel (k + 3) u' v') v v1 v2) u v1 v2 := by
  obtain ⟨h, l, c, N, S, V, la, lp, lr, pl, ro, rfl, rfl, R⟩ := I
  have hh := R.1
  obtain ⟨f, hf, fX, fY⟩ := zl_find N S V (nI c) v1 v2 hh
  unfold wpX_remove wpY_remove
  refine fX _ (nI c) la lp lr ?_
  rcases hf with rfl | ⟨e, he, rfl, _⟩
  · exact br_t rfl (fY _ (nI c) (nI l) pl ro (br_f (by decide) ⟨rfl, zl_rel R⟩))
  · obtain ⟨g, rfl⟩ : ∃ g, h = g + 1 := ⟨h - 1, by omega⟩
    have hie : vp_in (nI e) 24 := vp_in_nI (by omega) (by omega)
    have hig : vp_in (nI g) 24 := vp_in_nI (by omega) (by omega)
    have hce : (nI e).toNatClampNeg = e := nI_clamp (by omega)
    have hcg : (nI g).toNatClampNeg = g := nI_clamp (by omega)
    refine br_f (zl_nm1 (by omega)) (nm_r (nI_pred g) ⟨hig, hie, nm_e ⟨hig, hie, nm_e ⟨hig, hie, nm_e ?_⟩⟩⟩)
    refine fY _ (nI c) (nI l) pl ro (br_t (nI_pos' (by omega)) (nm_r (nI_pred g) ⟨hig, hie, nm_e ⟨hig, hie, nm_e ⟨hig, hie, nm_e ⟨rfl, ?_⟩⟩⟩⟩))
    rw [hce, hcg]
    exact zl_rel (zl_R_rm R he)
theorem i_vc_exists {k : Nat} {u : SX} {v : SY} (I : i_Rel k u v) (hk : k + 3 ≤ 1536) : wpX_exists (fun r => wpY_exists (fun r' => r' = r ∧ i_Rel (k + 3) u v) v) u := by
  obtain ⟨h, l, c, N, S, V, la, lp, lr, pl, ro, rfl, rfl, R⟩ := I
  have hh := R.1
  obtain ⟨r, hr, eX, eY⟩ := zl_ex N S V hh (nI c)
  unfold wpX_exists wpY_exists
  refine eX _ (nI c) la lp lr ?_
  rcases hr with rfl | rfl
  · exact br_t rfl (eY _ (nI c) (nI l) pl ro (br_t rfl ⟨rfl, zl_rel R⟩))
  · exact br_f (by decide) (eY _ (nI c) (nI l) pl ro (br_f (by decide) ⟨rfl, zl_rel R⟩))
/-- a sort that is none, or one that is -/
theorem zl_sort (s : Int32) : ((∀ post : Int32 → Prop, post 0 → wpX_isSort post s) ∧ (∀ post : Int32 → Prop, post 1 → wpY_bad post s)) ∨ ((∀ post : Int32 → Prop, post 1 → wpX_isSort post s) ∧ (∀ post : Int32 → Prop, post 0 → wpY_bad post s)) := by
  by_cases h1 : s < 1
  · exact Or.inl ⟨fun _ hp => br_t h1 hp, fun _ hp => br_t h1 hp⟩
  · by_cases h4 : 4 < s
    · exact Or.inl ⟨fun _ hp => br_f h1 (br_t h4 hp), fun _ hp => br_f h1 (br_f (Int32.not_le.mpr h4) hp)⟩
    · exact Or.inr ⟨fun _ hp => br_f h1 (br_f h4 hp), fun _ hp => br_f h1 (br_t (Int32.not_lt.mp h4) hp)⟩
theorem i_vc_look {k : Nat} {u : SX} {v : SY} (I : i_Rel k u v) (hk : k + 3 ≤ 1536) (v1 : Int32) : wpX_look (fun r u' => wpY_look (fun r' v' => r' = r ∧ i_Rel (k + 3) u' v') v v1) u v1 := by
  obtain ⟨h, l, c, N, S, V, la, lp, lr, pl, ro, rfl, rfl, R⟩ := I
  unfold wpX_look wpY_look
  rcases zl_sort v1 with ⟨sX, sY⟩ | ⟨sX, sY⟩
  · exact sX _ (br_t rfl (sY _ (br_f (by decide) ⟨rfl, zl_rel R⟩)))
  · obtain ⟨a, p, r, lX, lY⟩ := zl_look R.1 R.2.2.2.2 (zl_HU R) v1 (zl_k6 R)
    exact sX _ (br_f (by decide) (lX _ la lp lr (sY _ (br_t rfl (lY _ (nI l) pl ro ⟨rfl, zl_rel R⟩)))))
theorem i_vc_place {k : Nat} {u : SX} {v : SY} (I : i_Rel k u v) (hk : k + 3 ≤ 1536) (v1 : Int32) : wpX_place (fun r u' => wpY_place (fun r' v' => r' = r ∧ i_Rel (k + 3) u' v') v v1) u v1 := by
  obtain ⟨h, l, c, N, S, V, la, lp, lr, pl, ro, rfl, rfl, R⟩ := I
  unfold wpX_place wpY_place
  rcases zl_sort v1 with ⟨sX, sY⟩ | ⟨sX, sY⟩
  · exact sX _ (br_t rfl (sY _ (br_f (by decide) ⟨rfl, zl_rel R⟩)))
  · obtain ⟨a, p, r, lX, lY⟩ := zl_look R.1 R.2.2.2.2 (zl_HU R) v1 (zl_k6 R)
    exact sX _ (br_f (by decide) (lX _ la lp lr (sY _ (br_t rfl (lY _ (nI l) pl ro ⟨rfl, zl_rel R⟩)))))
theorem i_vc_rounds {k : Nat} {u : SX} {v : SY} (I : i_Rel k u v) (hk : k + 3 ≤ 1536) (v1 : Int32) : wpX_rounds (fun r u' => wpY_rounds (fun r' v' => r' = r ∧ i_Rel (k + 3) u' v') v v1) u v1 := by
  obtain ⟨h, l, c, N, S, V, la, lp, lr, pl, ro, rfl, rfl, R⟩ := I
  unfold wpX_rounds wpY_rounds
  rcases zl_sort v1 with ⟨sX, sY⟩ | ⟨sX, sY⟩
  · exact sX _ (br_t rfl (sY _ (br_f (by decide) ⟨rfl, zl_rel R⟩)))
  · obtain ⟨a, p, r, lX, lY⟩ := zl_look R.1 R.2.2.2.2 (zl_HU R) v1 (zl_k6 R)
    exact sX _ (br_f (by decide) (lX _ la lp lr (sY _ (br_t rfl (lY _ (nI l) pl ro ⟨rfl, zl_rel R⟩)))))
theorem i_vc_value {k : Nat} {u : SX} {v : SY} (I : i_Rel k u v) (hk : k + 3 ≤ 1536) (v1 : Int32) (v2 : Int32) : wpX_value (fun r u' => wpY_value (fun r' v' => r' = r ∧ i_Rel (k + 3) u' v') v v1 v2) u v1 v2 := by
  obtain ⟨h, l, c, N, S, V, la, lp, lr, pl, ro, rfl, rfl, R⟩ := I
  unfold wpX_value wpY_value
  rcases zl_sort v1 with ⟨sX, sY⟩ | ⟨sX, sY⟩
  · exact sX _ (br_t rfl (sY _ (br_f (by decide) ⟨rfl, zl_rel R⟩)))
  · obtain ⟨a, p, r, lX, lY⟩ := zl_look R.1 R.2.2.2.2 (zl_HU R) v1 (zl_k6 R)
    refine sX _ (br_f (by decide) (lX _ la lp lr ?_))
    by_cases a1 : a = 1
    · exact br_t a1 (zl_X_rank R.1 (sY _ (br_t rfl (lY _ (nI l) pl ro (br_t a1 (zl_Y_rank R.1 ⟨rfl, zl_rel R⟩))))))
    · by_cases a4 : a = 4
      · refine br_f a1 (br_t a4 (zl_X_rank R.1 (sY _ (br_t rfl (lY _ (nI l) pl ro (br_f a1 (br_t a4 ?_)))))))
        by_cases x0 : v2 = 0
        · subst x0
          exact br_t rfl (zl_Y_rank R.1 ⟨rfl, zl_rel R⟩)
        · refine br_f x0 ⟨?_, zl_rel R⟩
          exact (zl_rv_0 (zl_HU R p 4 (Or.inr rfl)) x0 h 0 (by omega)).symm
      · exact br_f a1 (br_f a4 (sY _ (br_t rfl (lY _ (nI l) pl ro (br_f a1 (br_f a4 ⟨rfl, zl_rel R⟩))))))
