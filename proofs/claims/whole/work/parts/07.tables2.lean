/-- a trip more -/
def qj_tripD (d : qj_D) (l t : Nat) : qj_D := (qj_L d, qj_T d + 1, qj_len d, qj_stp d, qj_aft d, qj_un (qj_tl d) (qj_T d) l, qj_un (qj_st d) (qj_T d) t, qj_wk d)
theorem qj_ok_trip {d : qj_D} (hd : qj_ok d) {l t : Nat} (hT : qj_T d < 12) (hl : l < qj_L d) (ht : t ≤ 500) : qj_ok (qj_tripD d l t) := by
  have hL := qj_ok_L hd
  have h3 := qj_ok_len hd
  have h4 := hd.2.2.2.1
  have h5 := qj_ok_stp hd
  have h6 := hd.2.2.2.2.2.1
  have h7 := hd.2.2.2.2.2.2.1
  have hwk := qj_ok_wk hd
  refine ⟨hL, hT, h3, h4, h5, h6, h7, qj_un_all (p := fun x => x < 5) (qj_ok_tl hd) (by omega), ?_, qj_un_all (p := fun x => x ≤ 500) (qj_ok_st hd) ht, hwk⟩
  intro m hm
  show qj_un (qj_tl d) (qj_T d) l m < qj_L d
  have hm' : m < qj_T d + 1 := hm
  by_cases e : m = qj_T d
  · rw [e, qj_un_s]; exact hl
  · rw [qj_un_n e]; exact qj_ok_tlL hd (by omega)
theorem qj_lt_trip {d : qj_D} {lt : Nat → Int32} {l t : Nat} (hl : l < 5) {c : Nat → Nat} (h1 : ∀ l, l < 5 → lt l = nI (c l) ∧ c l ≤ qj_T d) (h2 : ∀ l, l < 5 → (0 < c l ↔ ∃ m, m < qj_T d ∧ qj_tl d m = l)) : qj_lt (qj_tripD d l t) (upd lt l (nI (c l + 1))) := by
  refine ⟨qj_un c l (c l + 1), ?_, ?_⟩
  · intro l' hl'
    show upd lt l (nI (c l + 1)) l' = nI (qj_un c l (c l + 1) l') ∧ qj_un c l (c l + 1) l' ≤ qj_T d + 1
    have := (h1 l' hl').2
    by_cases e : l' = l
    · subst e; rw [pk_us, qj_un_s]; exact ⟨rfl, by omega⟩
    · rw [pk_un e, qj_un_n e]; exact ⟨(h1 l' hl').1, by omega⟩
  · intro l' hl'
    show 0 < qj_un c l (c l + 1) l' ↔ ∃ m, m < qj_T d + 1 ∧ qj_un (qj_tl d) (qj_T d) l m = l'
    by_cases e : l' = l
    · subst e; rw [qj_un_s]
      exact ⟨fun _ => ⟨qj_T d, by omega, qj_un_s⟩, fun _ => by omega⟩
    · rw [qj_un_n e, h2 l' hl']
      constructor
      · rintro ⟨m, hm, h3⟩
        exact ⟨m, by omega, by rw [qj_un_n (by omega)]; exact h3⟩
      · rintro ⟨m, hm, h3⟩
        by_cases em : m = qj_T d
        · rw [em, qj_un_s] at h3
          exact absurd h3.symm e
        · rw [qj_un_n em] at h3
          exact ⟨m, by omega, h3⟩
theorem i_vc_trip {k : Nat} {u : SX} {v : SY} (I : i_Rel k u v) (hk : k + 5 ≤ 2560) (v1 : Int32) (v2 : Int32) : wpX_trip (fun r u' => wpY_trip (fun r' v' => r' = r ∧ i_Rel (k + 5) u' v') v v1 v2) u v1 v2 := by
  obtain ⟨d, lt, off, rch, off', th, hd, hlt, rfl, rfl⟩ := I
  have hL := qj_ok_L hd
  have hT := qj_ok_T hd
  unfold wpX_trip qx_S
  dsimp only
  rcases qj_ix v1 (qj_L d) (by omega) with hb | ⟨l, hl, rfl⟩
  · refine qx_isLine_no hb ?_
    refine br_t rfl ?_
    unfold wpY_trip qy_S
    dsimp only
    refine qy_isLine_no hb ?_
    exact br_t rfl ⟨rfl, qj_rel hd hlt⟩
  · refine qx_isLine_yes hd hl ?_
    refine br_f qj_10 ?_
    rcases qj_rng v2 500 (by decide) with h0 | ⟨h0, h1, h1'⟩ | ⟨t, ht, rfl⟩
    · refine qx_isStart_no (Or.inl h0) ?_
      refine br_t rfl ?_
      unfold wpY_trip qy_S
      dsimp only
      refine qy_isLine_yes hd hl ?_
      exact br_f qj_10 (br_t h0 ⟨rfl, qj_rel hd hlt⟩)
    · refine qx_isStart_no (Or.inr ⟨h0, h1, h1'⟩) ?_
      refine br_t rfl ?_
      unfold wpY_trip qy_S
      dsimp only
      refine qy_isLine_yes hd hl ?_
      exact br_f qj_10 (br_f h0 (br_f h1' ⟨rfl, qj_rel hd hlt⟩))
    · refine qx_isStart_yes ht ?_
      refine br_f qj_10 ?_
      by_cases h12 : qj_T d = 12
      · refine br_f (by rw [h12]; decide) ?_
        unfold wpY_trip qy_S
        dsimp only
        refine qy_isLine_yes hd hl ?_
        exact br_f qj_10 (br_f (nI_pos (by omega)) (br_t (nI_le (b := 500) ht (by decide)) (br_t (by rw [h12]; rfl) ⟨rfl, qj_rel hd hlt⟩)))
      · have hT12 : qj_T d < 12 := by omega
        obtain ⟨c, h1, h2⟩ := hlt
        have eT : vp_in (nI (qj_T d)) 12 := pk_in (qj_T d) 12 hT12
        have el : vp_in (nI l) 5 := pk_in l 5 (by omega)
        have e1 : upd (qa_tl d) (nI (qj_T d)).toNatClampNeg (nI l) = qa_tl (qj_tripD d l t) := by rw [nI_clamp (by omega)]; exact qj_un_nI _ _ _
        have e2 : upd (qa_st d) (nI (qj_T d)).toNatClampNeg (nI t) = qa_st (qj_tripD d l t) := by rw [nI_clamp (by omega)]; exact qj_un_nI _ _ _
        have e3 : upd lt (nI l).toNatClampNeg (lt (nI l).toNatClampNeg + 1) = upd lt l (nI (c l + 1)) := by rw [nI_clamp (by omega), (h1 l (by omega)).1, nI_1]
        refine br_t (nI_lt (b := 12) hT12 (by decide)) ⟨eT, nm_r e1 ⟨eT, nm_r e2 ⟨el, el, nm_r e3 (nm_r (nI_1 _) ?_)⟩⟩⟩
        unfold wpY_trip qy_S
        dsimp only
        refine qy_isLine_yes hd hl ?_
        refine br_f qj_10 (br_f (nI_pos (by omega)) (br_t (nI_le (b := 500) ht (by decide)) (br_f ?_ ⟨eT, nm_r e1 ⟨eT, nm_r e2 (nm_r (nI_1 _) ⟨nI_pred _, qj_rel (qj_ok_trip hd hT12 hl ht) (qj_lt_trip (by omega) h1 h2)⟩)⟩⟩)))
        exact fun hh => h12 ((nI_eq (b := 12) (by omega) (by decide)).mp hh)
/-- another footpath -/
def qj_footD (d : qj_D) (a b m : Nat) : qj_D := (qj_L d, qj_T d, qj_len d, qj_stp d, qj_aft d, qj_tl d, qj_st d, qj_un (qj_un (qj_wk d) (a * 8 + b) m) (b * 8 + a) m)
theorem qj_ok_foot {d : qj_D} (hd : qj_ok d) {a b m : Nat} (hm : m ≤ 30) : qj_ok (qj_footD d a b m) := by
  obtain ⟨h1, h2, h3, h4, h5, h6, h7, h8, h9, h10, h11⟩ := hd
  exact ⟨h1, h2, h3, h4, h5, h6, h7, h8, h9, h10, qj_un_all (p := fun x => x ≤ 30) (qj_un_all (p := fun x => x ≤ 30) h11 hm) hm⟩
theorem i_vc_footpath {k : Nat} {u : SX} {v : SY} (I : i_Rel k u v) (hk : k + 5 ≤ 2560) (v1 : Int32) (v2 : Int32) (v3 : Int32) : wpX_footpath (fun r u' => wpY_footpath (fun r' v' => r' = r ∧ i_Rel (k + 5) u' v') v v1 v2 v3) u v1 v2 v3 := by
  obtain ⟨d, lt, off, rch, off', th, hd, hlt, rfl, rfl⟩ := I
  unfold wpX_footpath qx_S
  dsimp only
  rcases qj_ix v1 8 (by decide) with hb | ⟨a, ha, rfl⟩
  · refine qx_isStop_no hb ?_
    refine br_t rfl ?_
    unfold wpY_footpath qy_S
    dsimp only
    refine qy_isStop_no hb ?_
    exact br_t rfl ⟨rfl, qj_rel hd hlt⟩
  refine qx_isStop_yes ha ?_
  refine br_f qj_10 ?_
  rcases qj_ix v2 8 (by decide) with hb | ⟨b, hb, rfl⟩
  · refine qx_isStop_no hb ?_
    refine br_t rfl ?_
    unfold wpY_footpath qy_S
    dsimp only
    refine qy_isStop_yes ha ?_
    refine br_f qj_10 ?_
    refine qy_isStop_no hb ?_
    exact br_t rfl ⟨rfl, qj_rel hd hlt⟩
  refine qx_isStop_yes hb ?_
  refine br_f qj_10 ?_
  unfold wpY_footpath qy_S
  dsimp only
  by_cases hab : nI a = nI b
  · refine br_t hab ?_
    refine qy_isStop_yes ha ?_
    refine br_f qj_10 ?_
    refine qy_isStop_yes hb ?_
    exact br_f qj_10 (br_t hab ⟨rfl, qj_rel hd hlt⟩)
  refine br_f hab ?_
  rcases qj_rng v3 30 (by decide) with h0 | ⟨h0, h1, h1'⟩ | ⟨m, hm, rfl⟩
  · refine br_t h0 ?_
    refine qy_isStop_yes ha ?_
    refine br_f qj_10 ?_
    refine qy_isStop_yes hb ?_
    exact br_f qj_10 (br_f hab (br_t h0 ⟨rfl, qj_rel hd hlt⟩))
  · refine br_f h0 (br_f h1' ?_)
    refine qy_isStop_yes ha ?_
    refine br_f qj_10 ?_
    refine qy_isStop_yes hb ?_
    exact br_f qj_10 (br_f hab (br_f h0 (br_f h1' ⟨rfl, qj_rel hd hlt⟩)))
  · have e1 : vp_in (nI a * 8 + nI b) 64 := pk_in (a * 8 + b) 64 (by omega) (qj_ix8 a b)
    have e2 : vp_in (nI b * 8 + nI a) 64 := pk_in (b * 8 + a) 64 (by omega) (qj_ix8 b a)
    have e3 : upd (qa_wk d) (nI a * 8 + nI b).toNatClampNeg (nI m) = fun j => nI (qj_un (qj_wk d) (a * 8 + b) m j) := by rw [qj_ix8, nI_clamp (by omega)]; exact qj_un_nI _ _ _
    have e4 : upd (fun j => nI (qj_un (qj_wk d) (a * 8 + b) m j)) (nI b * 8 + nI a).toNatClampNeg (nI m) = qa_wk (qj_footD d a b m) := by rw [qj_ix8, nI_clamp (by omega)]; exact qj_un_nI _ _ _
    refine br_f (nI_pos (by omega)) (br_t (nI_le (b := 30) hm (by decide)) ⟨e1, nm_e ⟨e1, nm_r e3 ⟨e2, nm_r e4 ?_⟩⟩⟩)
    refine qy_isStop_yes ha ?_
    refine br_f qj_10 ?_
    refine qy_isStop_yes hb ?_
    exact br_f qj_10 (br_f hab (br_f (nI_pos (by omega)) (br_t (nI_le (b := 30) hm (by decide)) ⟨e1, nm_e ⟨e1, nm_r e3 ⟨e2, nm_r e4 ⟨rfl, qj_rel (qj_ok_foot hd hm) hlt⟩⟩⟩⟩)))
/-- a trip moved -/
def qj_delD (d : qj_D) (m t : Nat) : qj_D := (qj_L d, qj_T d, qj_len d, qj_stp d, qj_aft d, qj_tl d, qj_un (qj_st d) m t, qj_wk d)
theorem qj_ok_del {d : qj_D} (hd : qj_ok d) {m t : Nat} (ht : t ≤ 500) : qj_ok (qj_delD d m t) := by
  obtain ⟨h1, h2, h3, h4, h5, h6, h7, h8, h9, h10, h11⟩ := hd
  exact ⟨h1, h2, h3, h4, h5, h6, h7, h8, h9, qj_un_all (p := fun x => x ≤ 500) h10 ht, h11⟩
theorem i_vc_delay {k : Nat} {u : SX} {v : SY} (I : i_Rel k u v) (hk : k + 5 ≤ 2560) (v1 : Int32) (v2 : Int32) : wpX_delay (fun r u' => wpY_delay (fun r' v' => r' = r ∧ i_Rel (k + 5) u' v') v v1 v2) u v1 v2 := by
  obtain ⟨d, lt, off, rch, off', th, hd, hlt, rfl, rfl⟩ := I
  have hT := qj_ok_T hd
  unfold wpX_delay qx_S
  dsimp only
  unfold wpY_delay qy_S
  dsimp only
  rcases qj_ix v1 (qj_T d) (by omega) with (h0 | ⟨h0, h1⟩) | ⟨m, hm, rfl⟩
  · exact br_t h0 (br_t h0 ⟨rfl, qj_rel hd hlt⟩)
  · have h2 : ¬ v1 < nI (qj_T d) := Int32.not_lt.mpr h1
    exact br_f h0 (br_f h2 (br_f h0 (br_f h2 ⟨rfl, qj_rel hd hlt⟩)))
  · have h0 : ¬ nI m < 0 := nI_pos (by omega)
    have h1 : nI m < nI (qj_T d) := nI_lt hm (by omega)
    refine br_f h0 (br_t h1 ?_)
    rcases qj_rng v2 500 (by decide) with g0 | ⟨g0, g1, g1'⟩ | ⟨t, ht, rfl⟩
    · refine qx_isStart_no (Or.inl g0) ?_
      exact br_t rfl (br_f h0 (br_t h1 (br_t g0 ⟨rfl, qj_rel hd hlt⟩)))
    · refine qx_isStart_no (Or.inr ⟨g0, g1, g1'⟩) ?_
      exact br_t rfl (br_f h0 (br_t h1 (br_f g0 (br_f g1' ⟨rfl, qj_rel hd hlt⟩))))
    · have em : vp_in (nI m) 12 := pk_in m 12 (by omega)
      have e1 : upd (qa_st d) (nI m).toNatClampNeg (nI t) = qa_st (qj_delD d m t) := by rw [nI_clamp (by omega)]; exact qj_un_nI _ _ _
      refine qx_isStart_yes ht ?_
      exact br_f qj_10 ⟨em, nm_e ⟨em, nm_r e1 (br_f h0 (br_t h1 (br_f (nI_pos (by omega)) (br_t (nI_le (b := 500) ht (by decide)) ⟨em, nm_e ⟨em, nm_r e1 ⟨rfl, qj_rel (qj_ok_del hd ht) hlt⟩⟩⟩))))⟩⟩
