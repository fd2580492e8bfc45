/-- the component's count of a line's trips -/
def qj_lt (d : qj_D) (lt : Nat → Int32) : Prop := ∃ c : Nat → Nat, (∀ l, l < 5 → lt l = nI (c l) ∧ c l ≤ qj_T d) ∧ ∀ l, l < 5 → (0 < c l ↔ ∃ m, m < qj_T d ∧ qj_tl d m = l)
/-- one timetable on both sides; the searches' scratch is free -/
def i_Rel (k : Nat) (u : SX) (v : SY) : Prop := ∃ (d : qj_D) (lt off rch off' th : Nat → Int32), qj_ok d ∧ qj_lt d lt ∧ u = qx_S d lt off rch ∧ v = qy_S d off' th
theorem qj_rel {k : Nat} {d : qj_D} {lt off rch off' th : Nat → Int32} (hd : qj_ok d) (hlt : qj_lt d lt) : i_Rel k (qx_S d lt off rch) (qy_S d off' th) := ⟨d, lt, off, rch, off', th, hd, hlt, rfl, rfl⟩
theorem qj_rng (x : Int32) (hi : Nat) (h : hi < 2 ^ 31) : x < 0 ∨ (¬ x < 0 ∧ nI hi < x ∧ ¬ x ≤ nI hi) ∨ ∃ j : Nat, j ≤ hi ∧ x = nI j := by
  by_cases h0 : x < 0
  · exact Or.inl h0
  · obtain ⟨j, hj, rfl⟩ := nI_of h0
    by_cases h2 : j ≤ hi
    · exact Or.inr (Or.inr ⟨j, h2, rfl⟩)
    · exact Or.inr (Or.inl ⟨h0, nI_lt (by omega) hj, nI_ge (by omega) hj⟩)
theorem qj_ix (x : Int32) (n : Nat) (h : n < 2 ^ 31) : (x < 0 ∨ (¬ x < 0 ∧ nI n ≤ x)) ∨ ∃ j : Nat, j < n ∧ x = nI j := by
  by_cases h0 : x < 0
  · exact Or.inl (Or.inl h0)
  · obtain ⟨j, hj, rfl⟩ := nI_of h0
    by_cases h2 : j < n
    · exact Or.inr ⟨j, h2, rfl⟩
    · exact Or.inl (Or.inr ⟨h0, nI_le (by omega) hj⟩)
theorem qj_10 : ¬ (1 : Int32) = 0 := by decide
theorem qx_isStop_no {post : Int32 → Prop} {x : Int32} (h : x < 0 ∨ (¬ x < 0 ∧ nI 8 ≤ x)) (hp : post 0) : wpX_isStop post x := by
  rcases h with h0 | ⟨h0, h1⟩
  · exact br_t h0 hp
  · exact br_f h0 (br_t h1 hp)
theorem qx_isStop_yes {post : Int32 → Prop} {a : Nat} (ha : a < 8) (hp : post 1) : wpX_isStop post (nI a) :=
  br_f (nI_pos (by omega)) (br_f (nI_ge (b := 8) ha (by decide)) hp)
theorem qy_isStop_no {post : Int32 → Prop} {d : qj_D} {off th : Nat → Int32} {x : Int32} (h : x < 0 ∨ (¬ x < 0 ∧ nI 8 ≤ x)) (hp : post 0) : wpY_isStop post (qy_S d off th) x := by
  rcases h with h0 | ⟨h0, h1⟩
  · exact br_t h0 hp
  · exact br_f h0 (br_t h1 hp)
theorem qy_isStop_yes {post : Int32 → Prop} {d : qj_D} {off th : Nat → Int32} {a : Nat} (ha : a < 8) (hp : post 1) : wpY_isStop post (qy_S d off th) (nI a) :=
  br_f (nI_pos (by omega)) (br_f (nI_ge (b := 8) ha (by decide)) hp)
theorem qx_isLine_no {post : Int32 → Prop} {d : qj_D} {lt off rch : Nat → Int32} {x : Int32} (h : x < 0 ∨ (¬ x < 0 ∧ nI (qj_L d) ≤ x)) (hp : post 0) : wpX_isLine post (qx_S d lt off rch) x := by
  rcases h with h0 | ⟨h0, h1⟩
  · exact br_t h0 hp
  · exact br_f h0 (br_t h1 hp)
theorem qx_isLine_yes {post : Int32 → Prop} {d : qj_D} (hd : qj_ok d) {lt off rch : Nat → Int32} {l : Nat} (hl : l < qj_L d) (hp : post 1) : wpX_isLine post (qx_S d lt off rch) (nI l) := by
  have := qj_ok_L hd
  exact br_f (nI_pos (by omega)) (br_f (nI_ge hl (by omega)) hp)
theorem qy_isLine_no {post : Int32 → Prop} {d : qj_D} {off th : Nat → Int32} {x : Int32} (h : x < 0 ∨ (¬ x < 0 ∧ nI (qj_L d) ≤ x)) (hp : post 0) : wpY_isLine post (qy_S d off th) x := by
  rcases h with h0 | ⟨h0, h1⟩
  · exact br_t h0 hp
  · exact br_f h0 (br_t h1 hp)
theorem qy_isLine_yes {post : Int32 → Prop} {d : qj_D} (hd : qj_ok d) {off th : Nat → Int32} {l : Nat} (hl : l < qj_L d) (hp : post 1) : wpY_isLine post (qy_S d off th) (nI l) := by
  have := qj_ok_L hd
  exact br_f (nI_pos (by omega)) (br_f (nI_ge hl (by omega)) hp)
theorem qx_isStart_no {post : Int32 → Prop} {x : Int32} (h : x < 0 ∨ (¬ x < 0 ∧ nI 500 < x ∧ ¬ x ≤ nI 500)) (hp : post 0) : wpX_isStart post x := by
  rcases h with h0 | ⟨h0, h1, _⟩
  · exact br_t h0 hp
  · exact br_f h0 (br_t h1 hp)
theorem qx_isStart_yes {post : Int32 → Prop} {a : Nat} (ha : a ≤ 500) (hp : post 1) : wpX_isStart post (nI a) :=
  br_f (nI_pos (by omega)) (br_f (nI_nlt (a := 500) ha (by decide)) hp)
theorem qx_isTime_no {post : Int32 → Prop} {x : Int32} (h : x < 0 ∨ (¬ x < 0 ∧ nI 1000 < x ∧ ¬ x ≤ nI 1000)) (hp : post 0) : wpX_isTime post x := by
  rcases h with h0 | ⟨h0, h1, _⟩
  · exact br_t h0 hp
  · exact br_f h0 (br_t h1 hp)
theorem qx_isTime_yes {post : Int32 → Prop} {a : Nat} (ha : a ≤ 1000) (hp : post 1) : wpX_isTime post (nI a) :=
  br_f (nI_pos (by omega)) (br_f (nI_nlt (a := 1000) ha (by decide)) hp)
theorem qy_isTime_no {post : Int32 → Prop} {d : qj_D} {off th : Nat → Int32} {x : Int32} (h : x < 0 ∨ (¬ x < 0 ∧ nI 1000 < x ∧ ¬ x ≤ nI 1000)) (hp : post 0) : wpY_isTime post (qy_S d off th) x := by
  rcases h with h0 | ⟨h0, h1, _⟩
  · exact br_t h0 hp
  · exact br_f h0 (br_t h1 hp)
theorem qy_isTime_yes {post : Int32 → Prop} {d : qj_D} {off th : Nat → Int32} {a : Nat} (ha : a ≤ 1000) (hp : post 1) : wpY_isTime post (qy_S d off th) (nI a) :=
  br_f (nI_pos (by omega)) (br_f (nI_nlt (a := 1000) ha (by decide)) hp)
def qj_un (f : Nat → Nat) (k x : Nat) : Nat → Nat := fun j => if j = k then x else f j
theorem qj_un_s {f : Nat → Nat} {k x : Nat} : qj_un f k x k = x := if_pos rfl
theorem qj_un_n {f : Nat → Nat} {k x j : Nat} (h : j ≠ k) : qj_un f k x j = f j := if_neg h
theorem qj_un_nI (f : Nat → Nat) (k x : Nat) : upd (fun j => nI (f j)) k (nI x) = fun j => nI (qj_un f k x j) := by
  funext j
  by_cases e : j = k
  · subst e; rw [pk_us, qj_un_s]
  · rw [pk_un e, qj_un_n e]
theorem qj_un_all {f : Nat → Nat} {k x : Nat} {p : Nat → Prop} (h : ∀ j, p (f j)) (hx : p x) : ∀ j, p (qj_un f k x j) := by
  intro j
  by_cases e : j = k
  · rw [e, qj_un_s]; exact hx
  · rw [qj_un_n e]; exact h j
theorem i_up {k : Nat} {u : SX} {v : SY} (h : i_Rel k u v) : i_Rel (k + 5) u v := h
theorem i_vc0 : wpX_init (fun u => wpY_init (fun v => i_Rel 0 u v)) := by
  refine ⟨(0, 0, fun _ => 0, fun _ => 0, fun _ => 0, fun _ => 0, fun _ => 0, fun _ => 0), fun _ => 0, fun _ => 0, fun _ => 0, fun _ => 0, fun _ => 0, ?_, ?_, rfl, rfl⟩
  · exact ⟨by decide, by decide, fun _ => Nat.zero_le _, fun l hl => absurd hl (Nat.not_lt_zero l), fun _ => Nat.zero_lt_succ 7, fun _ _ _ _ => Nat.zero_le _, fun _ _ _ j _ hj => absurd hj (Nat.not_lt_zero j), fun _ => Nat.zero_lt_succ 4, fun m hm => absurd hm (Nat.not_lt_zero m), fun _ => Nat.zero_le _, fun _ => Nat.zero_le _⟩
  · refine ⟨fun _ => 0, fun l hl => ⟨rfl, Nat.zero_le _⟩, fun l hl => ⟨fun hh => absurd hh (Nat.lt_irrefl 0), ?_⟩⟩
    rintro ⟨m, hm, _⟩
    exact absurd hm (Nat.not_lt_zero m)
/-- a line more -/
def qj_lineD (d : qj_D) (s : Nat) : qj_D := (qj_L d + 1, qj_T d, qj_un (qj_len d) (qj_L d) 1, qj_un (qj_stp d) (qj_L d * 6) s, qj_un (qj_aft d) (qj_L d * 6) 0, qj_tl d, qj_st d, qj_wk d)
theorem qj_ok_line {d : qj_D} (hd : qj_ok d) {s : Nat} (hL : qj_L d < 5) (hs : s < 8) : qj_ok (qj_lineD d s) := by
  have hT := qj_ok_T hd
  have htl := qj_ok_tl hd
  have hst := qj_ok_st hd
  have hwk := qj_ok_wk hd
  refine ⟨hL, hT, qj_un_all (p := fun x => x ≤ 6) (qj_ok_len hd) (by decide), ?_, qj_un_all (p := fun x => x < 8) (qj_ok_stp hd) hs, ?_, ?_, htl, fun m hm => Nat.lt_succ_of_lt (qj_ok_tlL hd hm), hst, hwk⟩
  · intro l hl
    show 1 ≤ qj_un (qj_len d) (qj_L d) 1 l
    by_cases e : l = qj_L d
    · rw [e, qj_un_s]; exact Nat.le_refl 1
    · rw [qj_un_n e]
      have hl' : l < qj_L d + 1 := hl
      exact qj_ok_one hd (by omega)
  · intro l hl i hi
    show qj_un (qj_aft d) (qj_L d * 6) 0 (l * 6 + i) ≤ 30 * i
    have hi' : i < qj_un (qj_len d) (qj_L d) 1 l := hi
    by_cases e : l = qj_L d
    · rw [e, qj_un_s] at hi'
      have ei : i = 0 := by omega
      rw [e, ei, Nat.add_zero, qj_un_s]; exact Nat.zero_le _
    · rw [qj_un_n e] at hi'
      have := qj_ok_len hd l
      rw [qj_un_n (by omega)]
      exact qj_ok_aft hd hl hi'
  · intro l hl i j hij hj
    show qj_un (qj_aft d) (qj_L d * 6) 0 (l * 6 + i) < qj_un (qj_aft d) (qj_L d * 6) 0 (l * 6 + j)
    have hj' : j < qj_un (qj_len d) (qj_L d) 1 l := hj
    by_cases e : l = qj_L d
    · rw [e, qj_un_s] at hj'
      omega
    · rw [qj_un_n e] at hj'
      have := qj_ok_len hd l
      rw [qj_un_n (by omega), qj_un_n (by omega)]
      exact qj_ok_inc hd hl hij hj'
theorem qj_lt_line {d : qj_D} (hd : qj_ok d) {lt : Nat → Int32} {s : Nat} (hL : qj_L d < 5) (h : qj_lt d lt) : qj_lt (qj_lineD d s) (upd lt (qj_L d) 0) := by
  obtain ⟨c, h1, h2⟩ := h
  refine ⟨qj_un c (qj_L d) 0, ?_, ?_⟩
  · intro l hl
    by_cases e : l = qj_L d
    · subst e; rw [pk_us, qj_un_s]; exact ⟨rfl, Nat.zero_le _⟩
    · rw [pk_un e, qj_un_n e]; exact h1 l hl
  · intro l hl
    by_cases e : l = qj_L d
    · subst e; rw [qj_un_s]
      refine ⟨fun hh => absurd hh (Nat.lt_irrefl 0), ?_⟩
      rintro ⟨m, hm, h3⟩
      have h4 : qj_tl d m = qj_L d := h3
      have := qj_ok_tlL hd hm
      omega
    · rw [qj_un_n e]; exact h2 l hl
theorem i_vc_line {k : Nat} {u : SX} {v : SY} (I : i_Rel k u v) (hk : k + 5 ≤ 2560) (v1 : Int32) : wpX_line (fun r u' => wpY_line (fun r' v' => r' = r ∧ i_Rel (k + 5) u' v') v v1) u v1 := by
  obtain ⟨d, lt, off, rch, off', th, hd, hlt, rfl, rfl⟩ := I
  unfold wpX_line qx_S
  dsimp only
  rcases qj_ix v1 8 (by decide) with hb | ⟨s, hs, rfl⟩
  · refine qx_isStop_no hb ?_
    refine br_t rfl ?_
    unfold wpY_line qy_S
    dsimp only
    refine qy_isStop_no hb ?_
    exact br_t rfl ⟨rfl, qj_rel hd hlt⟩
  · have hL := qj_ok_L hd
    refine qx_isStop_yes hs ?_
    refine br_f qj_10 ?_
    by_cases h5 : qj_L d = 5
    · refine br_f (by rw [h5]; decide) ?_
      unfold wpY_line qy_S
      dsimp only
      refine qy_isStop_yes hs ?_
      exact br_f qj_10 (br_t (by rw [h5]; rfl) ⟨rfl, qj_rel hd hlt⟩)
    · have hL5 : qj_L d < 5 := by omega
      have e6 : vp_in (nI (qj_L d) * 6) 30 := pk_in (qj_L d * 6) 30 (by omega) (qj_x6 _)
      have e5 : vp_in (nI (qj_L d)) 5 := pk_in (qj_L d) 5 hL5
      have eS : upd (qa_stp d) (nI (qj_L d) * 6).toNatClampNeg (nI s) = qa_stp (qj_lineD d s) := by rw [qj_x6, nI_clamp (by omega)]; exact qj_un_nI _ _ _
      have eA : upd (qa_aft d) (nI (qj_L d) * 6).toNatClampNeg 0 = qa_aft (qj_lineD d s) := by rw [qj_x6, nI_clamp (by omega)]; exact qj_un_nI _ _ _
      have eN : upd (qa_len d) (nI (qj_L d)).toNatClampNeg 1 = qa_len (qj_lineD d s) := by rw [nI_clamp (by omega)]; exact qj_un_nI _ _ _
      have eT : upd lt (nI (qj_L d)).toNatClampNeg 0 = upd lt (qj_L d) 0 := by rw [nI_clamp (by omega)]
      refine br_t (nI_lt (b := 5) hL5 (by decide)) ⟨e6, nm_r eS ⟨e6, nm_r eA ⟨e5, nm_r eN ⟨e5, nm_r eT (nm_r (nI_1 _) ?_)⟩⟩⟩⟩
      unfold wpY_line qy_S
      dsimp only
      refine qy_isStop_yes hs ?_
      refine br_f qj_10 ?_
      refine br_f ?_ ⟨e6, nm_r eS ⟨e6, nm_r eA ⟨e5, nm_r eN (nm_r (nI_1 _) ⟨nI_pred _, qj_rel (qj_ok_line hd hL5 hs) (qj_lt_line hd hL5 hlt)⟩)⟩⟩⟩
      exact fun hh => h5 ((nI_eq (b := 5) (by omega) (by decide)).mp hh)
