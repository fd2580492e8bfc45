theorem qj_cnt_y {P : Nat → Prop} {n : Nat} (h : P n) : qj_cnt P n + 1 = qj_cnt P (n + 1) := by
  simp only [qj_cnt, if_pos h]
theorem qj_cnt_n {P : Nat → Prop} {n : Nat} (h : ¬ P n) : qj_cnt P n = qj_cnt P (n + 1) := by
  simp only [qj_cnt, if_neg h, Nat.add_zero]
theorem qx_within40 (post : Int32 → SX → Prop) {d : qj_D} {a t w : Nat} (hw : w ≤ 1000) (lt off rch : Nat → Int32) (hAt : qx_At d a t 12 off rch)
    (h : post (nI (qj_cnt (fun s => qj_H d (qj_C d a t 12) s w) 8)) (qx_S d lt off rch)) :
    ∀ e i, i + e = 8 → wX_within_40 post (nI w) (nI (qj_L d)) (nI (qj_T d)) (qa_stp d) (qa_aft d) (qa_len d) lt (qa_tl d) (qa_st d) (qa_wk d) off rch (e + 1) (nI (qj_cnt (fun s => qj_H d (qj_C d a t 12) s w) i)) (nI i) := by
  intro e
  induction e with
  | zero =>
    intro i hi
    have ei : i = 8 := by omega
    subst ei
    exact br_t (nI_le (b := 8) (a := 8) (by omega) (by decide)) h
  | succ e ih =>
    intro i hi
    have ih1 := ih (i + 1) (by omega)
    obtain ⟨x, ex, hx⟩ := qx_val (b := i) (by omega) hAt
    have hx1 := hx.1
    have hxw := hx.2 w (by omega)
    refine br_f (nI_ge (b := 8) (by omega) (by decide)) ⟨pk_in i 8 (by omega), pk_lt w x (fun hlt => nm_r (nI_1 i) ?_) (fun hge => nm_r (nI_1 _) (nm_r (nI_1 i) ?_)) rfl ex⟩
    · rw [qj_cnt_n (P := fun s => qj_H d (qj_C d a t 12) s w) (n := i) (fun hP => absurd (hxw.mpr hP) (by omega))]
      exact ih1
    · rw [qj_cnt_y (P := fun s => qj_H d (qj_C d a t 12) s w) (n := i) (hxw.mp hge)]
      exact ih1
theorem qy_within42 (post : Int32 → SY → Prop) {d : qj_D} {a t w : Nat} (hw : w ≤ 1000) (off th : Nat → Int32) (hAt : qy_At d a t 12 th)
    (h : post (nI (qj_cnt (fun s => qj_H d (qj_C d a t 12) s w) 8)) (qy_S d off th)) :
    ∀ e i, i + e = 8 → wY_within_42 post (nI w) (nI (qj_L d)) (nI (qj_T d)) (qa_len d) (qa_stp d) (qa_aft d) (qa_tl d) (qa_st d) (qa_wk d) off th (e + 1) (nI (qj_cnt (fun s => qj_H d (qj_C d a t 12) s w) i)) (nI i) := by
  intro e
  induction e with
  | zero =>
    intro i hi
    have ei : i = 8 := by omega
    subst ei
    exact br_t (nI_le (b := 8) (a := 8) (by omega) (by decide)) h
  | succ e ih =>
    intro i hi
    have ih1 := ih (i + 1) (by omega)
    refine br_f (nI_ge (b := 8) (by omega) (by decide)) ?_
    refine qy_best _ (K := 12) (K0 := 12) (by decide) (by decide) (b := i) (by omega) off th hAt ?_
    intro x hx
    have hx1 := hx.1
    have hxw := hx.2 w (by omega)
    refine pk_lt w x (fun hlt => nm_r (nI_1 i) ?_) (fun hge => nm_r (nI_1 _) (nm_r (nI_1 i) ?_))
    · rw [qj_cnt_n (P := fun s => qj_H d (qj_C d a t 12) s w) (n := i) (fun hP => absurd (hxw.mpr hP) (by omega))]
      exact ih1
    · rw [qj_cnt_y (P := fun s => qj_H d (qj_C d a t 12) s w) (n := i) (hxw.mp hge)]
      exact ih1
theorem i_vc_within {k : Nat} {u : SX} {v : SY} (I : i_Rel k u v) (hk : k + 5 ≤ 2560) (v1 : Int32) (v2 : Int32) (v3 : Int32) : wpX_within (fun r u' => wpY_within (fun r' v' => r' = r ∧ i_Rel (k + 5) u' v') v v1 v2 v3) u v1 v2 v3 := by
  obtain ⟨d, lt, off, rch, off', th, hd, hlt, rfl, rfl⟩ := I
  unfold wpX_within qx_S
  dsimp only
  unfold wpY_within qy_S
  dsimp only
  rcases qj_ix v1 8 (by decide) with hb | ⟨a, ha, rfl⟩
  · refine qx_isStop_no hb ?_
    refine br_t rfl ?_
    unfold wpY_refusal
    dsimp only
    refine qy_isStop_no hb ?_
    exact br_t rfl (br_f (by decide) ⟨rfl, qj_rel hd hlt⟩)
  refine qx_isStop_yes ha ?_
  refine br_f qj_10 ?_
  have ht : (v2 < 0 ∨ (¬ v2 < 0 ∧ nI 1000 < v2 ∧ ¬ v2 ≤ nI 1000)) ∨ ∃ t : Nat, t ≤ 1000 ∧ v2 = nI t := or_assoc.mpr (qj_rng v2 1000 (by decide))
  rcases ht with hbad | ⟨t, ht, rfl⟩
  · refine qx_isTime_no hbad ?_
    refine br_t rfl ?_
    unfold wpY_refusal
    dsimp only
    refine qy_isStop_yes ha ?_
    refine br_f qj_10 ?_
    refine qy_isStop_yes ha ?_
    refine br_f qj_10 ?_
    refine qy_isTime_no hbad ?_
    exact br_t rfl (br_f (by decide) ⟨rfl, qj_rel hd hlt⟩)
  refine qx_isTime_yes ht ?_
  refine br_f qj_10 ?_
  have hw : (v3 < 0 ∨ (¬ v3 < 0 ∧ nI 1000 < v3 ∧ ¬ v3 ≤ nI 1000)) ∨ ∃ w : Nat, w ≤ 1000 ∧ v3 = nI w := or_assoc.mpr (qj_rng v3 1000 (by decide))
  rcases hw with hbad | ⟨w, hw, rfl⟩
  · refine qx_isTime_no hbad ?_
    refine br_t rfl ?_
    refine qy_fault_ok ha ha ht ?_
    refine br_t (by decide) ?_
    refine qy_isTime_no hbad ?_
    exact br_t rfl ⟨rfl, qj_rel hd hlt⟩
  refine qx_isTime_yes hw ?_
  refine br_f qj_10 ?_
  refine qx_search (K := 12) _ hd ha ht (by decide) lt off rch ?_
  intro off2 rch2 hAt2
  refine ⟨9, qx_within40 _ hw lt off2 rch2 hAt2 ?_ 8 0 (by omega)⟩
  refine qy_fault_ok ha ha ht ?_
  refine br_t (by decide) ?_
  refine qy_isTime_yes hw ?_
  refine br_f qj_10 ?_
  refine qy_search (K := 12) _ hd ha ht (by decide) off' th ?_
  intro off3 th3 hAt3
  exact ⟨9, qy_within42 _ hw off3 th3 hAt3 ⟨rfl, qj_rel hd hlt⟩ 8 0 (by omega)⟩
