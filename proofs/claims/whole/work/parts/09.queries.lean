theorem qx_fault_ok {post : Int32 → Prop} {a b t : Nat} (ha : a < 8) (hb : b < 8) (ht : t ≤ 1000) (hp : post 0) : wpX_faultOf post (nI a) (nI b) (nI t) := by
  unfold wpX_faultOf
  refine qx_isStop_yes ha ?_
  refine br_f qj_10 ?_
  refine qx_isStop_yes hb ?_
  refine br_f qj_10 ?_
  refine qx_isTime_yes ht ?_
  exact br_f qj_10 hp
theorem qy_fault_ok {post : Int32 → Prop} {d : qj_D} {off th : Nat → Int32} {a b t : Nat} (ha : a < 8) (hb : b < 8) (ht : t ≤ 1000) (hp : post 0) : wpY_refusal post (qy_S d off th) (nI a) (nI b) (nI t) := by
  unfold wpY_refusal qy_S
  dsimp only
  refine qy_isStop_yes ha ?_
  refine br_f qj_10 ?_
  refine qy_isStop_yes hb ?_
  refine br_f qj_10 ?_
  refine qy_isTime_yes ht ?_
  exact br_f qj_10 hp
/-- the arguments of a question: both sides refuse them with one answer, or they are stops and a time -/
theorem qj_fault (p0 p1 p2 : Int32) : (∃ f : Int32, ¬ f = 0 ∧ ¬ 0 ≤ f ∧ (∀ post : Int32 → Prop, post f → wpX_faultOf post p0 p1 p2) ∧ (∀ (post : Int32 → Prop) (d : qj_D) (off th : Nat → Int32), post f → wpY_refusal post (qy_S d off th) p0 p1 p2)) ∨
    ∃ a b t : Nat, a < 8 ∧ b < 8 ∧ t ≤ 1000 ∧ p0 = nI a ∧ p1 = nI b ∧ p2 = nI t := by
  rcases qj_ix p0 8 (by decide) with h | ⟨a, ha, rfl⟩
  · refine Or.inl ⟨-1, by decide, by decide, fun post hp => ?_, fun post d off th hp => ?_⟩
    · unfold wpX_faultOf
      refine qx_isStop_no h ?_
      exact br_t rfl hp
    · unfold wpY_refusal qy_S
      dsimp only
      refine qy_isStop_no h ?_
      exact br_t rfl hp
  rcases qj_ix p1 8 (by decide) with h | ⟨b, hb, rfl⟩
  · refine Or.inl ⟨-1, by decide, by decide, fun post hp => ?_, fun post d off th hp => ?_⟩
    · unfold wpX_faultOf
      refine qx_isStop_yes ha ?_
      refine br_f qj_10 ?_
      refine qx_isStop_no h ?_
      exact br_t rfl hp
    · unfold wpY_refusal qy_S
      dsimp only
      refine qy_isStop_yes ha ?_
      refine br_f qj_10 ?_
      refine qy_isStop_no h ?_
      exact br_t rfl hp
  have hbad : (p2 < 0 ∨ (¬ p2 < 0 ∧ nI 1000 < p2 ∧ ¬ p2 ≤ nI 1000)) ∨ ∃ t : Nat, t ≤ 1000 ∧ p2 = nI t := or_assoc.mpr (qj_rng p2 1000 (by decide))
  rcases hbad with h | ⟨t, ht, rfl⟩
  · refine Or.inl ⟨-3, by decide, by decide, fun post hp => ?_, fun post d off th hp => ?_⟩
    · unfold wpX_faultOf
      refine qx_isStop_yes ha ?_
      refine br_f qj_10 ?_
      refine qx_isStop_yes hb ?_
      refine br_f qj_10 ?_
      refine qx_isTime_no h ?_
      exact br_t rfl hp
    · unfold wpY_refusal qy_S
      dsimp only
      refine qy_isStop_yes ha ?_
      refine br_f qj_10 ?_
      refine qy_isStop_yes hb ?_
      refine br_f qj_10 ?_
      refine qy_isTime_no h ?_
      exact br_t rfl hp
  exact Or.inr ⟨a, b, t, ha, hb, ht, rfl, rfl, rfl⟩
theorem qx_val {d : qj_D} {a t K b : Nat} (hb : b < 8) {off rch : Nat → Int32} (h : qx_At d a t K off rch) : ∃ x, rch (nI b).toNatClampNeg = nI x ∧ qj_Is 1000000 (qj_H d (qj_C d a t K) b) x := by
  obtain ⟨o, r, ho, hr⟩ := h
  exact ⟨r b, by rw [nI_clamp (by omega)]; exact (hr b hb).1, (hr b hb).2⟩
theorem qx_ew (post : Int32 → SX → Prop) {d : qj_D} {a t K b : Nat} (hb : b < 8) (lt off rch : Nat → Int32) (z : Int32)
    (hs : ∀ post' : SX → Prop, (∀ off' rch', qx_At d a t K off' rch' → post' (qx_S d lt off' rch')) → wpX_search post' (qx_S d lt off rch) (nI a) (nI t) z)
    (h : ∀ off' rch' x, qj_Is 1000000 (qj_H d (qj_C d a t K) b) x → (x = 1000000 → post (-5) (qx_S d lt off' rch')) ∧ (x ≠ 1000000 → post (nI x) (qx_S d lt off' rch'))) :
    wX_earliestWith_33 post (nI b) z (nI t) (nI a) (nI (qj_L d)) (nI (qj_T d)) (qa_stp d) (qa_aft d) (qa_len d) lt (qa_tl d) (qa_st d) (qa_wk d) off rch := by
  refine hs _ ?_
  intro off' rch' hAt
  obtain ⟨x, ex, hx⟩ := qx_val hb hAt
  have hx1 := hx.1
  have hh := h off' rch' x hx
  have eb : vp_in (nI b) 8 := pk_in b 8 hb
  refine ⟨eb, pk_eq x 1000000 hh.1 (fun hne => ⟨eb, ?_⟩) ex⟩
  show post (rch' (nI b).toNatClampNeg) (qx_S d lt off' rch')
  rw [ex]
  exact hh.2 hne
theorem qy_ew (post : Int32 → SY → Prop) {d : qj_D} (hd : qj_ok d) {a t K b : Nat} (ha : a < 8) (ht : t ≤ 1000) (hK : K ≤ 12) (hb : b < 8) (off th : Nat → Int32)
    (h : ∀ off' th' n, qy_At d a t K th' → qj_Is 100000 (qj_H d (qj_C d a t K) b) n → (n = 100000 → post (-5) (qy_S d off' th')) ∧ (n ≠ 100000 → post (nI n) (qy_S d off' th'))) :
    wY_earliestWith_40 post (nI a) (nI b) (nI t) (nI K) (nI (qj_L d)) (nI (qj_T d)) (qa_len d) (qa_stp d) (qa_aft d) (qa_tl d) (qa_st d) (qa_wk d) off th := by
  unfold wY_earliestWith_40
  refine qy_search _ hd ha ht hK off th ?_
  intro off' th' hAt
  refine qy_best _ (Nat.le_refl K) hK hb off' th' hAt ?_
  intro n hn
  have hn1 := hn.1
  have hh := h off' th' n hAt hn
  exact pk_eq n 100000 hh.1 hh.2
theorem qj_fin {k : Nat} {d : qj_D} {lt off rch off' th : Nat → Int32} (hd : qj_ok d) (hlt : qj_lt d lt) {a t K b x n : Nat} (ht : t ≤ 1000) (hx : qj_Is 1000000 (qj_H d (qj_C d a t K) b) x) (hn : qj_Is 100000 (qj_H d (qj_C d a t K) b) n) {r : Int32} (hr : r = if x = 1000000 then -5 else nI x) :
    (n = 100000 → ((-5 : Int32) = r ∧ i_Rel k (qx_S d lt off rch) (qy_S d off' th))) ∧ (n ≠ 100000 → (nI n = r ∧ i_Rel k (qx_S d lt off rch) (qy_S d off' th))) := by
  rcases qj_agree (fun τ hτ => qj_HC_lim hd ht hτ) hx hn with ⟨h1, h2⟩ | ⟨h1, h2⟩
  · rw [if_pos h1] at hr
    exact ⟨fun _ => ⟨hr.symm, qj_rel hd hlt⟩, fun hh => absurd h2 hh⟩
  · rw [if_neg (by omega)] at hr
    exact ⟨fun hh => by omega, fun _ => ⟨by rw [hr, h1], qj_rel hd hlt⟩⟩
theorem i_vc_earliestWith {k : Nat} {u : SX} {v : SY} (I : i_Rel k u v) (hk : k + 5 ≤ 2560) (v1 : Int32) (v2 : Int32) (v3 : Int32) (v4 : Int32) : wpX_earliestWith (fun r u' => wpY_earliestWith (fun r' v' => r' = r ∧ i_Rel (k + 5) u' v') v v1 v2 v3 v4) u v1 v2 v3 v4 := by
  obtain ⟨d, lt, off, rch, off', th, hd, hlt, rfl, rfl⟩ := I
  unfold wpX_earliestWith qx_S
  dsimp only
  unfold wpY_earliestWith qy_S
  dsimp only
  rcases qj_fault v1 v2 v3 with ⟨f, h0, hneg, hX, hY⟩ | ⟨a, b, t, ha, hb, ht, rfl, rfl, rfl⟩
  · refine hX _ ?_
    refine br_f h0 ?_
    refine hY _ d off' th ?_
    exact br_f hneg ⟨rfl, qj_rel hd hlt⟩
  refine qx_fault_ok ha hb ht ?_
  refine br_t rfl ?_
  rcases qj_rng v4 12 (by decide) with h0 | ⟨h0, h1, h1'⟩ | ⟨K, hK, rfl⟩
  · refine br_t (Int32.le_of_lt (Int32.lt_trans h0 (by decide))) ?_
    refine qx_ew (K := 0) _ hb lt off rch v4 (fun post' hp => qx_search_neg post' hd ha ht (Int32.le_of_lt h0) lt off rch hp) ?_
    intro off2 rch2 x hx
    refine ⟨fun e1 => ?_, fun e1 => ?_⟩
    · refine qy_fault_ok ha hb ht ?_
      refine br_t (by decide) (br_f (Int32.not_le.mpr h0) ?_)
      exact qy_ew (K := 0) _ hd ha ht (by omega) hb off' th (fun off3 th3 n _ hn => qj_fin hd hlt ht hx hn (by rw [if_pos e1]))
    · refine qy_fault_ok ha hb ht ?_
      refine br_t (by decide) (br_f (Int32.not_le.mpr h0) ?_)
      exact qy_ew (K := 0) _ hd ha ht (by omega) hb off' th (fun off3 th3 n _ hn => qj_fin hd hlt ht hx hn (by rw [if_neg e1]))
  · have h2 : 0 ≤ v4 := Int32.not_lt.mp h0
    refine br_f h1' ?_
    refine qx_ew (K := 12) _ hb lt off rch 12 (fun post' hp => qx_search (K := 12) post' hd ha ht (by decide) lt off rch hp) ?_
    intro off2 rch2 x hx
    refine ⟨fun e1 => ?_, fun e1 => ?_⟩
    · refine qy_fault_ok ha hb ht ?_
      refine br_t (by decide) (br_t h2 (br_f h1' ?_))
      exact qy_ew (K := 12) _ hd ha ht (by omega) hb off' th (fun off3 th3 n _ hn => qj_fin hd hlt ht hx hn (by rw [if_pos e1]))
    · refine qy_fault_ok ha hb ht ?_
      refine br_t (by decide) (br_t h2 (br_f h1' ?_))
      exact qy_ew (K := 12) _ hd ha ht (by omega) hb off' th (fun off3 th3 n _ hn => qj_fin hd hlt ht hx hn (by rw [if_neg e1]))
  · have h2 : 0 ≤ nI K := nI_pos' (by omega)
    have h12 : nI K ≤ 12 := nI_le (b := 12) hK (by decide)
    refine br_t h12 ?_
    refine qx_ew (K := K) _ hb lt off rch (nI K) (fun post' hp => qx_search post' hd ha ht hK lt off rch hp) ?_
    intro off2 rch2 x hx
    refine ⟨fun e1 => ?_, fun e1 => ?_⟩
    · refine qy_fault_ok ha hb ht ?_
      refine br_t (by decide) (br_t h2 (br_t h12 ?_))
      exact qy_ew (K := K) _ hd ha ht hK hb off' th (fun off3 th3 n _ hn => qj_fin hd hlt ht hx hn (by rw [if_pos e1]))
    · refine qy_fault_ok ha hb ht ?_
      refine br_t (by decide) (br_t h2 (br_t h12 ?_))
      exact qy_ew (K := K) _ hd ha ht hK hb off' th (fun off3 th3 n _ hn => qj_fin hd hlt ht hx hn (by rw [if_neg e1]))
theorem qy_earliest (post : Int32 → SY → Prop) {d : qj_D} (hd : qj_ok d) {a t b : Nat} (ha : a < 8) (ht : t ≤ 1000) (hb : b < 8) (off th : Nat → Int32)
    (h : ∀ off' th' n, qy_At d a t 12 th' → qj_Is 100000 (qj_H d (qj_C d a t 12) b) n → (n = 100000 → post (-5) (qy_S d off' th')) ∧ (n ≠ 100000 → post (nI n) (qy_S d off' th'))) :
    wpY_earliest post (qy_S d off th) (nI a) (nI b) (nI t) := by
  unfold wpY_earliest qy_S
  dsimp only
  unfold wpY_earliestWith
  dsimp only
  refine qy_fault_ok ha hb ht ?_
  refine br_t (by decide) (br_t (by decide) (br_t (by decide) ?_))
  exact qy_ew (K := 12) _ hd ha ht (by omega) hb off th h
theorem qy_earliest_no (post : Int32 → SY → Prop) {d : qj_D} (off th : Nat → Int32) {p0 p1 p2 f : Int32} (hneg : ¬ 0 ≤ f) (hY : ∀ (post : Int32 → Prop) (d : qj_D) (off th : Nat → Int32), post f → wpY_refusal post (qy_S d off th) p0 p1 p2) (h : post f (qy_S d off th)) : wpY_earliest post (qy_S d off th) p0 p1 p2 := by
  unfold wpY_earliest qy_S
  dsimp only
  unfold wpY_earliestWith
  dsimp only
  refine hY _ d off th ?_
  exact br_f hneg h
theorem i_vc_earliest {k : Nat} {u : SX} {v : SY} (I : i_Rel k u v) (hk : k + 5 ≤ 2560) (v1 : Int32) (v2 : Int32) (v3 : Int32) : wpX_earliest (fun r u' => wpY_earliest (fun r' v' => r' = r ∧ i_Rel (k + 5) u' v') v v1 v2 v3) u v1 v2 v3 := by
  obtain ⟨d, lt, off, rch, off', th, hd, hlt, rfl, rfl⟩ := I
  unfold wpX_earliest qx_S
  dsimp only
  rcases qj_fault v1 v2 v3 with ⟨f, h0, hneg, hX, hY⟩ | ⟨a, b, t, ha, hb, ht, rfl, rfl, rfl⟩
  · refine hX _ ?_
    refine br_f h0 ?_
    exact qy_earliest_no _ off' th hneg hY ⟨rfl, qj_rel hd hlt⟩
  refine qx_fault_ok ha hb ht ?_
  refine br_t rfl ?_
  refine qx_ew (K := 12) (fun r u' => wpY_earliest (fun r' v' => r' = r ∧ i_Rel (k + 5) u' v') (qy_S d off' th) (nI a) (nI b) (nI t)) hb lt off rch 12 (fun post' hp => qx_search (K := 12) post' hd ha ht (by decide) lt off rch hp) ?_
  intro off2 rch2 x hx
  refine ⟨fun e1 => ?_, fun e1 => ?_⟩
  · exact qy_earliest _ hd ha ht hb off' th (fun off3 th3 n _ hn => qj_fin hd hlt ht hx hn (by rw [if_pos e1]))
  · exact qy_earliest _ hd ha ht hb off' th (fun off3 th3 n _ hn => qj_fin hd hlt ht hx hn (by rw [if_neg e1]))
