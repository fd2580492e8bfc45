theorem qj_uu (f : Nat → Int32) (k : Nat) (x y : Int32) : upd (upd f k x) k y = upd f k y := by
  funext j
  by_cases e : j = k
  · subst e; rw [pk_us, pk_us]
  · rw [pk_un e, pk_un e, pk_un e]
theorem qy_walk32 (post : SY → Prop) (J2 : Int32 → (Nat → Int32) → (Nat → Int32) → (Nat → Int32) → (Nat → Int32) → (Nat → Int32) → (Nat → Int32) → (Nat → Int32) → (Nat → Int32) → Prop) {d : qj_D} (hd : qj_ok d) (off th : Nat → Int32) {k : Nat} (hk : k ≤ 12) {o : Nat → Nat} (ho : ∀ s, s < 8 → off (k * 8 + s) = nI (o s) ∧ o s ≤ 100000) {s : Nat} (hs : s < 8)
    (h : J2 (nI (s + 1)) (qa_len d) (qa_stp d) (qa_aft d) (qa_tl d) (qa_st d) (qa_wk d) off (upd th (k * 8 + s) (nI (qj_wf d o s 8)))) :
    ∀ e i, i + e = 8 → wY_walk_32 post J2 (nI k) (nI s) (nI (qj_L d)) (nI (qj_T d)) (e + 1) (nI i) (qa_len d) (qa_stp d) (qa_aft d) (qa_tl d) (qa_st d) (qa_wk d) off (upd th (k * 8 + s) (nI (qj_wf d o s i))) := by
  intro e
  induction e with
  | zero =>
    intro i hi
    have ei : i = 8 := by omega
    subst ei
    exact br_t (nI_le (b := 8) (a := 8) (by omega) (by decide)) (nm_r (nI_1 s) h)
  | succ e ih =>
    intro i hi
    have ih1 := ih (i + 1) (by omega)
    have hw := qj_ok_wk hd (i * 8 + s)
    have hoi := (ho i (by omega)).2
    have hwl := qj_wf_le d o s i
    have hos := (ho s hs).2
    have eo : off (nI k * 8 + nI i).toNatClampNeg + nI (qj_wk d (i * 8 + s)) = nI (o i + qj_wk d (i * 8 + s)) := by
      rw [qj_ix8, nI_clamp (by omega), (ho i (by omega)).1, nI_add]
    have et : upd th (k * 8 + s) (nI (qj_wf d o s i)) (nI k * 8 + nI s).toNatClampNeg = nI (qj_wf d o s i) := by
      rw [qj_ix8, nI_clamp (by omega), pk_us]
    have e1 : vp_in (nI k * 8 + nI i) 104 := pk_in (k * 8 + i) 104 (by omega) (qj_ix8 k i)
    have e2 : vp_in (nI k * 8 + nI s) 104 := pk_in (k * 8 + s) 104 (by omega) (qj_ix8 k s)
    refine br_f (nI_ge (b := 8) (by omega) (by decide)) ⟨pk_in (i * 8 + s) 64 (by omega) (qj_ix8 i s), nm_r (e' := nI (qj_wk d (i * 8 + s))) (by rw [qj_ix8, nI_clamp (by omega)]; exact rfl) ?_⟩
    refine pk_le (qj_wk d (i * 8 + s)) 0 (fun h0 => nm_r (nI_1 i) ?_) (fun h0 => ⟨e1, e2, ?_⟩)
    · rw [qj_wf, if_neg (by omega)] at ih1
      exact ih1
    · refine pk_le (qj_wf d o s i) (o i + qj_wk d (i * 8 + s)) (fun h1 => nm_r (nI_1 i) ?_) (fun h1 => ⟨e1, e2, nm_r (e' := upd th (k * 8 + s) (nI (o i + qj_wk d (i * 8 + s)))) (by rw [eo, qj_ix8, nI_clamp (by omega), qj_uu]) (nm_r (nI_1 i) ?_)⟩) et eo
      · rw [qj_wf, if_neg (by omega)] at ih1
        exact ih1
      · rw [qj_wf, if_pos (by omega)] at ih1
        exact ih1
theorem qy_walk2 (post : SY → Prop) {d : qj_D} (hd : qj_ok d) (off th0 : Nat → Int32) {k : Nat} (hk : k ≤ 12) {o : Nat → Nat} (ho : ∀ s, s < 8 → off (k * 8 + s) = nI (o s) ∧ o s ≤ 100000)
    (h : ∀ th', (∀ j, j < 8 → th' (k * 8 + j) = nI (qj_wf d o j 8)) → (∀ j, j < k * 8 → th' j = th0 j) → post (qy_S d off th')) :
    ∀ e s th, s + e = 8 → (∀ j, j < s → th (k * 8 + j) = nI (qj_wf d o j 8)) → (∀ j, j < k * 8 → th j = th0 j) → wY_walk_2 post (nI k) (nI (qj_L d)) (nI (qj_T d)) (e + 1) (nI s) (qa_len d) (qa_stp d) (qa_aft d) (qa_tl d) (qa_st d) (qa_wk d) off th := by
  intro e
  induction e with
  | zero =>
    intro s th hs hr hb
    have es : s = 8 := by omega
    subst es
    exact br_t (nI_le (b := 8) (a := 8) (by omega) (by decide)) (h th hr hb)
  | succ e ih =>
    intro s th hs hr hb
    have e2 : vp_in (nI k * 8 + nI s) 104 := pk_in (k * 8 + s) 104 (by omega) (qj_ix8 k s)
    refine br_f (nI_ge (b := 8) (by omega) (by decide)) ⟨e2, e2, nm_r (e' := upd th (k * 8 + s) (nI (qj_wf d o s 0))) (by rw [qj_ix8, nI_clamp (by omega), (ho s (by omega)).1]; exact rfl) ⟨9, ?_⟩⟩
    refine qy_walk32 post _ hd off th hk ho (by omega) ?_ 8 0 (by omega)
    refine ih (s + 1) _ (by omega) ?_ ?_
    · intro j hj
      by_cases e : j = s
      · subst e; exact pk_us
      · rw [pk_un (by omega)]; exact hr j (by omega)
    · intro j hj
      rw [pk_un (by omega)]; exact hb j hj
theorem qy_walk (post : SY → Prop) {d : qj_D} (hd : qj_ok d) (off th : Nat → Int32) {k : Nat} (hk : k ≤ 12) {o : Nat → Nat} (ho : ∀ s, s < 8 → off (k * 8 + s) = nI (o s) ∧ o s ≤ 100000)
    (h : ∀ th', (∀ j, j < 8 → th' (k * 8 + j) = nI (qj_wf d o j 8)) → (∀ j, j < k * 8 → th' j = th j) → post (qy_S d off th')) : wpY_walk post (qy_S d off th) (nI k) :=
  ⟨9, qy_walk2 post hd off th hk ho h 8 0 th (by omega) (fun j hj => absurd hj (by omega)) (fun _ _ => rfl)⟩
/-- trip m, boarded at place i, is left at one of its first x places -/
def qj_J (d : qj_D) (m i x s τ : Nat) : Prop := ∃ j, i < j ∧ j < x ∧ qj_stp d (qj_tl d m * 6 + j) = s ∧ qj_st d m + qj_aft d (qj_tl d m * 6 + j) ≤ τ
theorem qj_J_0 {d : qj_D} {m i s τ : Nat} : ¬ qj_J d m i (i + 1) s τ := by
  rintro ⟨j, h1, h2, _⟩
  omega
theorem qj_J_s {d : qj_D} {m i x s τ : Nat} (hx : i < x) : qj_J d m i (x + 1) s τ ↔ (qj_J d m i x s τ ∨ (qj_stp d (qj_tl d m * 6 + x) = s ∧ qj_st d m + qj_aft d (qj_tl d m * 6 + x) ≤ τ)) := by
  constructor
  · rintro ⟨j, h1, h2, h3, h4⟩
    by_cases e : j = x
    · subst e; exact Or.inr ⟨h3, h4⟩
    · exact Or.inl ⟨j, h1, by omega, h3, h4⟩
  · rintro (⟨j, h1, h2, h3, h4⟩ | ⟨h3, h4⟩)
    · exact ⟨j, h1, by omega, h3, h4⟩
    · exact ⟨x, hx, by omega, h3, h4⟩
theorem qy_ride63 (post : SY → Prop) {d : qj_D} (hd : qj_ok d) (th : Nat → Int32) {k m i0 : Nat} (hk : k ≤ 12) (hm : m < 12) {o0 : Nat → Nat}
    (h : ∀ (off' : Nat → Int32) (o' : Nat → Nat), (∀ s, s < 8 → off' (k * 8 + s) = nI (o' s) ∧ o' s ≤ 100000) → (∀ s, s < 8 → ∀ τ, o' s ≤ τ ↔ (o0 s ≤ τ ∨ qj_J d m i0 (qj_len d (qj_tl d m)) s τ)) → post (qy_S d off' th)) :
    ∀ (e j : Nat) (off : Nat → Int32) (o : Nat → Nat), i0 < j → j + e = qj_len d (qj_tl d m) → (∀ s, s < 8 → off (k * 8 + s) = nI (o s) ∧ o s ≤ 100000) → (∀ s, s < 8 → ∀ τ, o s ≤ τ ↔ (o0 s ≤ τ ∨ qj_J d m i0 j s τ)) →
      wY_ride_63 post (nI k) (nI m) (nI (qj_tl d m * 6)) 1 (nI (qj_L d)) (nI (qj_T d)) (e + 1) (nI j) (qa_len d) (qa_stp d) (qa_aft d) (qa_tl d) (qa_st d) (qa_wk d) off th := by
  have hlen := qj_ok_len hd (qj_tl d m)
  have htl := qj_ok_tl hd m
  have etl : qa_tl d (nI m).toNatClampNeg = nI (qj_tl d m) := by rw [nI_clamp (by omega)]; exact rfl
  have elen : qa_len d (qa_tl d (nI m).toNatClampNeg).toNatClampNeg = nI (qj_len d (qj_tl d m)) := by rw [etl, nI_clamp (by omega)]; exact rfl
  intro e
  induction e with
  | zero =>
    intro j off o hj0 hj ho hinv
    have ej : j = qj_len d (qj_tl d m) := by omega
    subst ej
    exact br_f (by decide) ⟨pk_in m 12 hm, pk_in (qj_tl d m) 5 htl etl, br_t (by rw [elen]; exact nI_le (by omega) (by omega)) (h off o ho hinv)⟩
  | succ e ih =>
    intro j off o hj0 hj ho hinv
    have hS := qj_ok_stp hd (qj_tl d m * 6 + j)
    have hT := qj_tm_le hd (m := m) (i := j) (by omega)
    have hoS := (ho _ hS).2
    have eix : nI (qj_tl d m * 6) + nI j = nI (qj_tl d m * 6 + j) := nI_add _ _
    have ein : vp_in (nI (qj_tl d m * 6) + nI j) 30 := pk_in (qj_tl d m * 6 + j) 30 (by omega) eix
    have eS : nI k * 8 + qa_stp d (nI (qj_tl d m * 6) + nI j).toNatClampNeg = nI (k * 8 + qj_stp d (qj_tl d m * 6 + j)) := by
      rw [eix, nI_clamp (by omega)]; exact qj_ix8 _ _
    have eT : qa_st d (nI m).toNatClampNeg + qa_aft d (nI (qj_tl d m * 6) + nI j).toNatClampNeg = nI (qj_st d m + qj_aft d (qj_tl d m * 6 + j)) := by
      rw [eix, nI_clamp (by omega), nI_clamp (by omega)]; exact nI_add _ _
    have eO : off (nI (k * 8 + qj_stp d (qj_tl d m * 6 + j))).toNatClampNeg = nI (o (qj_stp d (qj_tl d m * 6 + j))) := by
      rw [nI_clamp (by omega), (ho _ hS).1]
    have e7 : vp_in (nI (k * 8 + qj_stp d (qj_tl d m * 6 + j))) 104 := pk_in (k * 8 + qj_stp d (qj_tl d m * 6 + j)) 104 (by omega)
    refine br_f (by decide) ⟨pk_in m 12 hm, pk_in (qj_tl d m) 5 htl etl, br_f (by rw [elen]; exact nI_ge (by omega) (by omega)) ⟨ein, nm_r eS ⟨pk_in m 12 hm, ein, nm_r eT ⟨e7, ?_⟩⟩⟩⟩
    refine pk_le (o (qj_stp d (qj_tl d m * 6 + j))) (qj_st d m + qj_aft d (qj_tl d m * 6 + j)) (fun hle => nm_r (nI_1 j) (ih (j + 1) off o (by omega) (by omega) ho ?_)) (fun hgt => ⟨e7, nm_r (e' := upd off (k * 8 + qj_stp d (qj_tl d m * 6 + j)) (nI (qj_st d m + qj_aft d (qj_tl d m * 6 + j)))) (by rw [nI_clamp (by omega)]) (nm_r (nI_1 j) (ih (j + 1) _ (fun s => if s = qj_stp d (qj_tl d m * 6 + j) then qj_st d m + qj_aft d (qj_tl d m * 6 + j) else o s) (by omega) (by omega) ?_ ?_))⟩) eO rfl
    · intro s hs τ
      rw [qj_J_s hj0]
      constructor
      · intro hh
        exact ((hinv s hs τ).mp hh).elim Or.inl (fun h2 => Or.inr (Or.inl h2))
      · rintro (h1 | h2 | ⟨h3, h4⟩)
        · exact (hinv s hs τ).mpr (Or.inl h1)
        · exact (hinv s hs τ).mpr (Or.inr h2)
        · rw [← h3]; omega
    · intro s hs
      by_cases es : s = qj_stp d (qj_tl d m * 6 + j)
      · rw [if_pos es, es]
        exact ⟨pk_us, by omega⟩
      · rw [if_neg es, pk_un (by omega)]
        exact ho s hs
    · intro s hs τ
      rw [qj_J_s hj0]
      by_cases es : s = qj_stp d (qj_tl d m * 6 + j)
      · rw [if_pos es]
        constructor
        · exact fun hh => Or.inr (Or.inr ⟨es.symm, hh⟩)
        · rintro (h1 | h2 | ⟨h3, h4⟩)
          · have := (hinv s hs τ).mpr (Or.inl h1); rw [es] at this; omega
          · have := (hinv s hs τ).mpr (Or.inr h2); rw [es] at this; omega
          · exact h4
      · rw [if_neg es]
        constructor
        · intro hh
          exact ((hinv s hs τ).mp hh).elim Or.inl (fun h2 => Or.inr (Or.inl h2))
        · rintro (h1 | h2 | ⟨h3, h4⟩)
          · exact (hinv s hs τ).mpr (Or.inl h1)
          · exact (hinv s hs τ).mpr (Or.inr h2)
          · exact absurd h3.symm es
theorem qy_ride (post : SY → Prop) {d : qj_D} (hd : qj_ok d) (off th : Nat → Int32) {k m i : Nat} (hk : k < 12) (hm : m < 12) (hi : i < qj_len d (qj_tl d m)) {o r : Nat → Nat}
    (ho : ∀ s, s < 8 → off ((k + 1) * 8 + s) = nI (o s) ∧ o s ≤ 100000) (hr : ∀ s, s < 8 → th (k * 8 + s) = nI (r s) ∧ r s ≤ 100000)
    (h : ∀ (off' : Nat → Int32) (o' : Nat → Nat), (∀ s, s < 8 → off' ((k + 1) * 8 + s) = nI (o' s) ∧ o' s ≤ 100000) → (∀ s, s < 8 → ∀ τ, o' s ≤ τ ↔ (o s ≤ τ ∨ (r (qj_stp d (qj_tl d m * 6 + i)) ≤ qj_st d m + qj_aft d (qj_tl d m * 6 + i) ∧ qj_J d m i (qj_len d (qj_tl d m)) s τ))) → post (qy_S d off' th)) :
    wpY_ride post (qy_S d off th) (nI (k + 1)) (nI m) (nI i) := by
  have hlen := qj_ok_len hd (qj_tl d m)
  have htl := qj_ok_tl hd m
  have hS := qj_ok_stp hd (qj_tl d m * 6 + i)
  have hT := qj_tm_le hd hi
  have hrS := (hr _ hS).2
  have etl : qa_tl d (nI m).toNatClampNeg = nI (qj_tl d m) := by rw [nI_clamp (by omega)]; exact rfl
  have eix : nI (qj_tl d m * 6) + nI i = nI (qj_tl d m * 6 + i) := nI_add _ _
  have ein : vp_in (nI (qj_tl d m * 6) + nI i) 30 := pk_in (qj_tl d m * 6 + i) 30 (by omega) eix
  have eS : (nI (k + 1) - 1) * 8 + qa_stp d (nI (qj_tl d m * 6) + nI i).toNatClampNeg = nI (k * 8 + qj_stp d (qj_tl d m * 6 + i)) := by
    rw [eix, nI_clamp (by omega), nI_pred]; exact qj_ix8 _ _
  have eT : qa_st d (nI m).toNatClampNeg + qa_aft d (nI (qj_tl d m * 6) + nI i).toNatClampNeg = nI (qj_st d m + qj_aft d (qj_tl d m * 6 + i)) := by
    rw [eix, nI_clamp (by omega), nI_clamp (by omega)]; exact nI_add _ _
  have eR : th ((nI (k + 1) - 1) * 8 + qa_stp d (nI (qj_tl d m * 6) + nI i).toNatClampNeg).toNatClampNeg = nI (r (qj_stp d (qj_tl d m * 6 + i))) := by
    rw [eS, nI_clamp (by omega), (hr _ hS).1]
  refine ⟨pk_in m 12 hm, nm_r (e' := nI (qj_tl d m * 6)) (by rw [etl, qj_x6]) ⟨ein, pk_in (k * 8 + qj_stp d (qj_tl d m * 6 + i)) 104 (by omega) eS, pk_in m 12 hm, ein, ?_⟩⟩
  refine pk_lt (qj_st d m + qj_aft d (qj_tl d m * 6 + i)) (r (qj_stp d (qj_tl d m * 6 + i))) (fun hlt => nm_e ⟨1, br_t rfl (h off o ho ?_)⟩) (fun hge => nm_r (nI_1 i) ⟨qj_len d (qj_tl d m) - (i + 1) + 1, ?_⟩) eT eR
  · intro s hs τ
    refine ⟨Or.inl, fun hh => hh.elim id (fun h2 => ?_)⟩
    have := h2.1
    omega
  · refine qy_ride63 post hd th (by omega) hm (o0 := o) (i0 := i) (fun off' o' h1 h2 => h off' o' h1 ?_) (qj_len d (qj_tl d m) - (i + 1)) (i + 1) off o (by omega) (by omega) ho ?_
    · intro s hs τ
      rw [h2 s hs τ]
      exact ⟨fun hh => hh.elim Or.inl (fun h3 => Or.inr ⟨hge, h3⟩), fun hh => hh.elim Or.inl (fun h3 => Or.inr h3.2)⟩
    · exact fun s hs τ => ⟨Or.inl, fun hh => hh.elim id (fun h2 => absurd h2 qj_J_0)⟩
