/-- stop s is on line l -/
def qj_on (d : qj_D) (l s : Nat) : Prop := ∃ i, i < qj_len d l ∧ qj_stp d (l * 6 + i) = s
/-- line l has a trip -/
def qj_has (d : qj_D) (l : Nat) : Prop := ∃ m, m < qj_T d ∧ qj_tl d m = l
theorem qx_on16 (post : Int32 → Prop) {d : qj_D} (hd : qj_ok d) (lt off rch : Nat → Int32) {l s : Nat} (hl : l < 5) (hs : s < 8) (hy : qj_on d l s → post 1) (hn : ¬ qj_on d l s → post 0) :
    ∀ e i, i + e = qj_len d l → (∀ j, j < i → qj_stp d (l * 6 + j) ≠ s) → wX_isOnLine_16 post (nI s) (nI (l * 6)) (nI (qj_len d l)) (nI (qj_L d)) (nI (qj_T d)) (qa_stp d) (qa_aft d) (qa_len d) lt (qa_tl d) (qa_st d) (qa_wk d) off rch (e + 1) (nI i) := by
  have hlen := qj_ok_len hd l
  intro e
  induction e with
  | zero =>
    intro i hi hj
    refine br_t (nI_le (by omega) (by omega)) (hn ?_)
    rintro ⟨j, h1, h2⟩
    exact hj j (by omega) h2
  | succ e ih =>
    intro i hi hj
    have hS := qj_ok_stp hd (l * 6 + i)
    have eix : nI (l * 6) + nI i = nI (l * 6 + i) := nI_add _ _
    have eS : qa_stp d (nI (l * 6) + nI i).toNatClampNeg = nI (qj_stp d (l * 6 + i)) := by rw [eix, nI_clamp (by omega)]; exact rfl
    refine br_f (nI_ge (by omega) (by omega)) ⟨pk_in (l * 6 + i) 30 (by omega) eix, pk_eq (qj_stp d (l * 6 + i)) s (fun he => hy ⟨i, by omega, he⟩) (fun he => nm_r (nI_1 i) (ih (i + 1) (by omega) ?_)) eS⟩
    intro j hj'
    by_cases e : j = i
    · rw [e]; exact he
    · exact hj j (by omega)
theorem qx_isOnLine (post : Int32 → Prop) {d : qj_D} (hd : qj_ok d) (lt off rch : Nat → Int32) {l s : Nat} (hl : l < 5) (hs : s < 8) (hy : qj_on d l s → post 1) (hn : ¬ qj_on d l s → post 0) : wpX_isOnLine post (qx_S d lt off rch) (nI l) (nI s) :=
  nm_r (qj_x6 l) ⟨pk_in l 5 hl, nm_r (e' := nI (qj_len d l)) (by rw [nI_clamp (by omega)]; exact rfl) ⟨qj_len d l + 1, qx_on16 post hd lt off rch hl hs hy hn (qj_len d l) 0 (by omega) (fun j hj => absurd hj (by omega))⟩⟩
theorem qy_on2 (post : Int32 → Prop) {d : qj_D} (hd : qj_ok d) (off th : Nat → Int32) {l s : Nat} (hl : l < 5) (hs : s < 8) (hy : qj_on d l s → post 1) (hn : ¬ qj_on d l s → post 0) :
    ∀ e i, i + e = qj_len d l → (∀ j, j < i → qj_stp d (l * 6 + j) ≠ s) → wY_onLine_2 post (nI l) (nI s) (nI (qj_L d)) (nI (qj_T d)) (qa_len d) (qa_stp d) (qa_aft d) (qa_tl d) (qa_st d) (qa_wk d) off th (e + 1) (nI i) := by
  have hlen := qj_ok_len hd l
  have elen : qa_len d (nI l).toNatClampNeg = nI (qj_len d l) := by rw [nI_clamp (by omega)]; exact rfl
  intro e
  induction e with
  | zero =>
    intro i hi hj
    refine ⟨pk_in l 5 hl, br_t (by rw [elen]; exact nI_le (by omega) (by omega)) (hn ?_)⟩
    rintro ⟨j, h1, h2⟩
    exact hj j (by omega) h2
  | succ e ih =>
    intro i hi hj
    have hS := qj_ok_stp hd (l * 6 + i)
    have eS : qa_stp d (nI l * 6 + nI i).toNatClampNeg = nI (qj_stp d (l * 6 + i)) := by rw [qj_ix6, nI_clamp (by omega)]; exact rfl
    refine ⟨pk_in l 5 hl, br_f (by rw [elen]; exact nI_ge (by omega) (by omega)) ⟨pk_in (l * 6 + i) 30 (by omega) (qj_ix6 l i), pk_eq (qj_stp d (l * 6 + i)) s (fun he => hy ⟨i, by omega, he⟩) (fun he => nm_r (nI_1 i) (ih (i + 1) (by omega) ?_)) eS⟩⟩
    intro j hj'
    by_cases e : j = i
    · rw [e]; exact he
    · exact hj j (by omega)
theorem qy_onLine (post : Int32 → Prop) {d : qj_D} (hd : qj_ok d) (off th : Nat → Int32) {l s : Nat} (hl : l < 5) (hs : s < 8) (hy : qj_on d l s → post 1) (hn : ¬ qj_on d l s → post 0) : wpY_onLine post (qy_S d off th) (nI l) (nI s) :=
  ⟨qj_len d l + 1, qy_on2 post hd off th hl hs hy hn (qj_len d l) 0 (by omega) (fun j hj => absurd hj (by omega))⟩
theorem qy_has2 (post : Int32 → Prop) {d : qj_D} (hd : qj_ok d) (off th : Nat → Int32) {l : Nat} (hl : l < 5) (hy : qj_has d l → post 1) (hn : ¬ qj_has d l → post 0) :
    ∀ e i, i + e = qj_T d → (∀ j, j < i → qj_tl d j ≠ l) → wY_hasTrips_2 post (nI l) (nI (qj_L d)) (nI (qj_T d)) (qa_len d) (qa_stp d) (qa_aft d) (qa_tl d) (qa_st d) (qa_wk d) off th (e + 1) (nI i) := by
  have hT := qj_ok_T hd
  intro e
  induction e with
  | zero =>
    intro i hi hj
    refine br_t (nI_le (by omega) (by omega)) (hn ?_)
    rintro ⟨j, h1, h2⟩
    exact hj j (by omega) h2
  | succ e ih =>
    intro i hi hj
    have htl := qj_ok_tl hd i
    have e1 : qa_tl d (nI i).toNatClampNeg = nI (qj_tl d i) := by rw [nI_clamp (by omega)]; exact rfl
    refine br_f (nI_ge (by omega) (by omega)) ⟨pk_in i 12 (by omega), pk_eq (qj_tl d i) l (fun he => hy ⟨i, by omega, he⟩) (fun he => nm_r (nI_1 i) (ih (i + 1) (by omega) ?_)) e1⟩
    intro j hj'
    by_cases e : j = i
    · rw [e]; exact he
    · exact hj j (by omega)
theorem qy_hasTrips (post : Int32 → Prop) {d : qj_D} (hd : qj_ok d) (off th : Nat → Int32) {l : Nat} (hl : l < 5) (hy : qj_has d l → post 1) (hn : ¬ qj_has d l → post 0) : wpY_hasTrips post (qy_S d off th) (nI l) :=
  ⟨qj_T d + 1, qy_has2 post hd off th hl hy hn (qj_T d) 0 (by omega) (fun j hj => absurd hj (by omega))⟩
/-- a line extended -/
def qj_extD (d : qj_D) (l s m : Nat) : qj_D := (qj_L d, qj_T d, qj_un (qj_len d) l (qj_len d l + 1), qj_un (qj_stp d) (l * 6 + qj_len d l) s, qj_un (qj_aft d) (l * 6 + qj_len d l) (qj_aft d (l * 6 + qj_len d l - 1) + m), qj_tl d, qj_st d, qj_wk d)
theorem qj_ok_ext {d : qj_D} (hd : qj_ok d) {l s m : Nat} (hl : l < qj_L d) (hs : s < 8) (h6 : qj_len d l < 6) (h1 : 1 ≤ m) (hm : m ≤ 30) : qj_ok (qj_extD d l s m) := by
  have hL := qj_ok_L hd
  have hT := qj_ok_T hd
  have htl := qj_ok_tl hd
  have htL := hd.2.2.2.2.2.2.2.2.1
  have hst := qj_ok_st hd
  have hwk := qj_ok_wk hd
  have hone := qj_ok_one hd hl
  have hlast := qj_ok_aft hd (l := l) (by omega) (i := qj_len d l - 1) (by omega)
  have elast : l * 6 + qj_len d l - 1 = l * 6 + (qj_len d l - 1) := by omega
  refine ⟨hL, hT, qj_un_all (p := fun x => x ≤ 6) (qj_ok_len hd) h6, ?_, qj_un_all (p := fun x => x < 8) (qj_ok_stp hd) hs, ?_, ?_, htl, htL, hst, hwk⟩
  · intro l' hl'
    show 1 ≤ qj_un (qj_len d) l (qj_len d l + 1) l'
    by_cases e : l' = l
    · rw [e, qj_un_s]; omega
    · rw [qj_un_n e]; exact qj_ok_one hd hl'
  · intro l' hl' i hi
    show qj_un (qj_aft d) (l * 6 + qj_len d l) (qj_aft d (l * 6 + qj_len d l - 1) + m) (l' * 6 + i) ≤ 30 * i
    have hi' : i < qj_un (qj_len d) l (qj_len d l + 1) l' := hi
    by_cases e : l' = l
    · subst e
      rw [qj_un_s] at hi'
      by_cases ei : i = qj_len d l'
      · rw [ei, qj_un_s, elast]; omega
      · rw [qj_un_n (by omega)]
        exact qj_ok_aft hd hl' (by omega)
    · rw [qj_un_n e] at hi'
      have := qj_ok_len hd l'
      rw [qj_un_n (by omega)]
      exact qj_ok_aft hd hl' hi'
  · intro l' hl' i j hij hj
    show qj_un (qj_aft d) (l * 6 + qj_len d l) (qj_aft d (l * 6 + qj_len d l - 1) + m) (l' * 6 + i) < qj_un (qj_aft d) (l * 6 + qj_len d l) (qj_aft d (l * 6 + qj_len d l - 1) + m) (l' * 6 + j)
    have hj' : j < qj_un (qj_len d) l (qj_len d l + 1) l' := hj
    by_cases e : l' = l
    · subst e
      rw [qj_un_s] at hj'
      rw [qj_un_n (j := l' * 6 + i) (by omega)]
      by_cases ej : j = qj_len d l'
      · rw [ej, qj_un_s, elast]
        by_cases ei : i = qj_len d l' - 1
        · rw [ei]; omega
        · have := qj_ok_inc hd hl' (i := i) (j := qj_len d l' - 1) (by omega) (by omega)
          omega
      · rw [qj_un_n (by omega)]
        exact qj_ok_inc hd hl' hij (by omega)
    · rw [qj_un_n e] at hj'
      have := qj_ok_len hd l'
      rw [qj_un_n (by omega), qj_un_n (by omega)]
      exact qj_ok_inc hd hl' hij hj'
theorem i_vc_extend {k : Nat} {u : SX} {v : SY} (I : i_Rel k u v) (hk : k + 5 ≤ 2560) (v1 : Int32) (v2 : Int32) (v3 : Int32) : wpX_extend (fun r u' => wpY_extend (fun r' v' => r' = r ∧ i_Rel (k + 5) u' v') v v1 v2 v3) u v1 v2 v3 := by
  obtain ⟨d, lt, off, rch, off', th, hd, hlt, rfl, rfl⟩ := I
  have hL := qj_ok_L hd
  have hT := qj_ok_T hd
  unfold wpX_extend qx_S
  dsimp only
  unfold wpY_extend qy_S
  dsimp only
  rcases qj_ix v1 (qj_L d) (by omega) with hb | ⟨l, hl, rfl⟩
  · refine qx_isLine_no hb ?_
    refine br_t rfl ?_
    refine qy_isLine_no hb ?_
    exact br_t rfl ⟨rfl, qj_rel hd hlt⟩
  refine qx_isLine_yes hd hl ?_
  refine br_f qj_10 ?_
  rcases qj_ix v2 8 (by decide) with hb | ⟨s, hs, rfl⟩
  · refine qx_isStop_no hb ?_
    refine br_t rfl ?_
    refine qy_isLine_yes hd hl ?_
    refine br_f qj_10 ?_
    refine qy_isStop_no hb ?_
    exact br_t rfl ⟨rfl, qj_rel hd hlt⟩
  refine qx_isStop_yes hs ?_
  refine br_f qj_10 ?_
  refine qx_isOnLine _ hd lt off rch (by omega) hs (fun hon => ?_) (fun hon => ?_)
  · refine br_f qj_10 ?_
    refine qy_isLine_yes hd hl ?_
    refine br_f qj_10 ?_
    refine qy_isStop_yes hs ?_
    refine br_f qj_10 ?_
    refine qy_onLine _ hd off' th (by omega) hs (fun _ => ?_) (fun hn => absurd hon hn)
    exact br_f qj_10 ⟨rfl, qj_rel hd hlt⟩
  refine br_t rfl ?_
  have hY : ∀ {P : Int32 → Prop}, P 0 → wpY_onLine P (qy_S d off' th) (nI l) (nI s) := fun hp => qy_onLine _ hd off' th (by omega) hs (fun hh => absurd hh hon) (fun _ => hp)
  have hlen := qj_ok_len hd l
  have elen : qa_len d (nI l).toNatClampNeg = nI (qj_len d l) := by rw [nI_clamp (by omega)]; exact rfl
  have el : vp_in (nI l) 5 := pk_in l 5 (by omega)
  rcases qj_rng v3 30 (by decide) with h0 | ⟨h0, h1, h1'⟩ | ⟨m, hm, rfl⟩
  · have h1 : v3 < 1 := Int32.lt_trans h0 (by decide)
    refine br_t h1 ?_
    refine qy_isLine_yes hd hl ?_
    refine br_f qj_10 ?_
    refine qy_isStop_yes hs ?_
    refine br_f qj_10 ?_
    refine hY ?_
    exact br_t rfl (br_t h1 ⟨rfl, qj_rel hd hlt⟩)
  · have h2 : ¬ v3 < 1 := fun hh => absurd (Int32.lt_trans h1 hh) (by decide)
    refine br_f h2 (br_f h1' ?_)
    refine qy_isLine_yes hd hl ?_
    refine br_f qj_10 ?_
    refine qy_isStop_yes hs ?_
    refine br_f qj_10 ?_
    refine hY ?_
    exact br_t rfl (br_f h2 (br_f h1' ⟨rfl, qj_rel hd hlt⟩))
  by_cases hm0 : m = 0
  · have h1 : nI m < 1 := by rw [hm0]; decide
    refine br_t h1 ?_
    refine qy_isLine_yes hd hl ?_
    refine br_f qj_10 ?_
    refine qy_isStop_yes hs ?_
    refine br_f qj_10 ?_
    refine hY ?_
    exact br_t rfl (br_t h1 ⟨rfl, qj_rel hd hlt⟩)
  have hm1 : ¬ nI m < 1 := nI_nlt (b := 1) (by omega) (by omega)
  have hm30 : nI m ≤ 30 := nI_le (b := 30) hm (by decide)
  refine br_f hm1 (br_t hm30 ⟨el, ?_⟩)
  by_cases h6 : qj_len d l = 6
  · refine br_t (by rw [elen, h6]; decide) ?_
    refine qy_isLine_yes hd hl ?_
    refine br_f qj_10 ?_
    refine qy_isStop_yes hs ?_
    refine br_f qj_10 ?_
    refine hY ?_
    exact br_t rfl (br_f hm1 (br_t hm30 ⟨el, br_t (by rw [elen, h6]; rfl) ⟨rfl, qj_rel hd hlt⟩⟩))
  have hn6 : ¬ (6 : Int32) ≤ qa_len d (nI l).toNatClampNeg := by rw [elen]; exact nI_ge (b := 6) (by omega) (by decide)
  have hn6' : ¬ qa_len d (nI l).toNatClampNeg = 6 := by
    rw [elen]
    exact fun hh => h6 ((nI_eq (b := 6) (by omega) (by decide)).mp hh)
  refine br_f hn6 ⟨el, ?_⟩
  obtain ⟨c, hc1, hc2⟩ := hlt
  have hcl := (hc1 l (by omega)).2
  have ec : lt (nI l).toNatClampNeg = nI (c l) := by rw [nI_clamp (by omega)]; exact (hc1 l (by omega)).1
  by_cases hhas : qj_has d l
  · have hc0 : 0 < c l := (hc2 l (by omega)).mpr hhas
    refine br_f (by rw [ec]; exact nI_nle hc0 (by omega)) ?_
    refine qy_isLine_yes hd hl ?_
    refine br_f qj_10 ?_
    refine qy_isStop_yes hs ?_
    refine br_f qj_10 ?_
    refine hY ?_
    refine br_t rfl (br_f hm1 (br_t hm30 ⟨el, br_f hn6' ?_⟩))
    refine qy_hasTrips _ hd off' th (by omega) (fun _ => ?_) (fun hn => absurd hhas hn)
    exact br_f qj_10 ⟨rfl, qj_rel hd ⟨c, hc1, hc2⟩⟩
  have hc0 : c l = 0 := by
    by_cases e : c l = 0
    · exact e
    · exact absurd ((hc2 l (by omega)).mp (by omega)) hhas
  have hone := qj_ok_one hd hl
  have hlast := qj_ok_aft hd (l := l) (by omega) (i := qj_len d l - 1) (by omega)
  have ex : nI l * 6 + qa_len d (nI l).toNatClampNeg = nI (l * 6 + qj_len d l) := by rw [elen, qj_ix6]
  have ex1 : nI (l * 6 + qj_len d l) - 1 = nI (l * 6 + qj_len d l - 1) := by
    have e : l * 6 + qj_len d l = l * 6 + qj_len d l - 1 + 1 := by omega
    rw [e, nI_pred]; exact rfl
  have ep : vp_in (nI (l * 6 + qj_len d l)) 30 := pk_in (l * 6 + qj_len d l) 30 (by omega)
  have ep1 : vp_in (nI (l * 6 + qj_len d l) - 1) 30 := pk_in (l * 6 + qj_len d l - 1) 30 (by omega) ex1
  have eS : upd (qa_stp d) (nI (l * 6 + qj_len d l)).toNatClampNeg (nI s) = qa_stp (qj_extD d l s m) := by rw [nI_clamp (by omega)]; exact qj_un_nI _ _ _
  have eA0 : qa_aft d (nI (l * 6 + qj_len d l) - 1).toNatClampNeg + nI m = nI (qj_aft d (l * 6 + qj_len d l - 1) + m) := by rw [ex1, nI_clamp (by omega)]; exact nI_add _ _
  have eA : upd (qa_aft d) (nI (l * 6 + qj_len d l)).toNatClampNeg (qa_aft d (nI (l * 6 + qj_len d l) - 1).toNatClampNeg + nI m) = qa_aft (qj_extD d l s m) := by rw [eA0, nI_clamp (by omega)]; exact qj_un_nI _ _ _
  have eN : upd (qa_len d) (nI l).toNatClampNeg (qa_len d (nI l).toNatClampNeg + 1) = qa_len (qj_extD d l s m) := by rw [elen, nI_1, nI_clamp (by omega)]; exact qj_un_nI _ _ _
  have hd' : qj_ok (qj_extD d l s m) := qj_ok_ext hd hl hs (by omega) (by omega) hm
  have hlt' : qj_lt (qj_extD d l s m) lt := ⟨c, hc1, hc2⟩
  refine br_t (by rw [ec, hc0]; decide) ⟨el, nm_r ex ⟨ep, nm_r eS ⟨ep1, ep, nm_r eA ⟨el, el, nm_r eN ⟨el, ?_⟩⟩⟩⟩⟩
  refine qy_isLine_yes hd hl ?_
  refine br_f qj_10 ?_
  refine qy_isStop_yes hs ?_
  refine br_f qj_10 ?_
  refine hY ?_
  refine br_t rfl (br_f hm1 (br_t hm30 ⟨el, br_f hn6' ?_⟩))
  refine qy_hasTrips _ hd off' th (by omega) (fun hh => absurd hh hhas) (fun _ => ?_)
  exact br_t rfl ⟨el, nm_r ex ⟨ep, nm_r eS ⟨ep1, ep, nm_r eA ⟨el, el, nm_r eN ⟨el, rfl, qj_rel hd' hlt'⟩⟩⟩⟩⟩
