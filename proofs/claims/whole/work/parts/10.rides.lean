/-- l is the least number of rides with which b is reached as early as with i -/
def qj_lst (d : qj_D) (a t b i l : Nat) : Prop := l ≤ i ∧ (∀ τ, τ < 1000000 → qj_H d (qj_C d a t i) b τ → qj_H d (qj_C d a t l) b τ) ∧ ∀ j, j < l → ∃ τ, qj_H d (qj_C d a t i) b τ ∧ ¬ qj_H d (qj_C d a t j) b τ
theorem qx_rides28 (post : Int32 → SX → Prop) {d : qj_D} (hd : qj_ok d) {a t b : Nat} (hb : b < 8) (lt : Nat → Int32)
    (h : ∀ off rch l x, qj_Is 1000000 (qj_H d (qj_C d a t 12) b) x → qj_lst d a t b 12 l → (x = 1000000 → post (-5) (qx_S d lt off rch)) ∧ (x ≠ 1000000 → post (nI l) (qx_S d lt off rch))) :
    ∀ (e i : Nat) (off rch : Nat → Int32) (l : Nat), i + e = 12 → qx_At d a t i off rch → qj_lst d a t b i l → wX_rides_28 post (nI b) (e + 1) (nI l) (nI (i + 1)) (nI (qj_L d)) (nI (qj_T d)) (qa_stp d) (qa_aft d) (qa_len d) lt (qa_tl d) (qa_st d) (qa_wk d) off rch := by
  have eb : vp_in (nI b) 8 := pk_in b 8 hb
  intro e
  induction e with
  | zero =>
    intro i off rch l hi hAt hl
    have ei : i = 12 := by omega
    subst ei
    obtain ⟨x, ex, hx⟩ := qx_val hb hAt
    have hx1 := hx.1
    have hh := h off rch l x hx hl
    exact br_t (nI_lt (a := 12) (by omega) (by decide)) ⟨eb, pk_eq x 1000000 hh.1 hh.2 ex⟩
  | succ e ih =>
    intro i off rch l hi hAt hl
    obtain ⟨x, ex, hx⟩ := qx_val hb hAt
    have hx1 := hx.1
    refine br_f (nI_nlt (a := 12) (by omega) (by decide)) ⟨eb, nm_r ex ?_⟩
    refine qx_rideOnce _ hd lt off rch hAt ?_
    intro off' rch' hAt'
    obtain ⟨x', ex', hx'⟩ := qx_val hb hAt'
    have hx1' := hx'.1
    show vp_in (nI b) 8 ∧ ((nI x ≤ rch' (nI b).toNatClampNeg → ∀ x6 : Int32, x6 = nI (i + 1) + 1 → wX_rides_28 post (nI b) (e + 1) (nI l) x6 (nI (qj_L d)) (nI (qj_T d)) (qa_stp d) (qa_aft d) (qa_len d) lt (qa_tl d) (qa_st d) (qa_wk d) off' rch') ∧ (¬ nI x ≤ rch' (nI b).toNatClampNeg → ∀ x6 : Int32, x6 = nI (i + 1) + 1 → wX_rides_28 post (nI b) (e + 1) (nI (i + 1)) x6 (nI (qj_L d)) (nI (qj_T d)) (qa_stp d) (qa_aft d) (qa_len d) lt (qa_tl d) (qa_st d) (qa_wk d) off' rch'))
    refine ⟨eb, pk_le x x' (fun hle => nm_r (nI_1 (i + 1)) (ih (i + 1) off' rch' l (by omega) hAt' ?_)) (fun hgt => nm_r (nI_1 (i + 1)) (ih (i + 1) off' rch' (i + 1) (by omega) hAt' ?_)) rfl ex'⟩
    · obtain ⟨h1, h2, h3⟩ := hl
      refine ⟨by omega, fun τ hτ hH => h2 τ hτ ?_, fun j hj => ?_⟩
      · have := (hx'.2 τ hτ).mpr hH
        exact (hx.2 τ hτ).mp (by omega)
      · obtain ⟨τ, h4, h5⟩ := h3 j hj
        exact ⟨τ, qj_HC_more (by omega) h4, h5⟩
    · refine ⟨Nat.le_refl _, fun τ hτ hH => hH, fun j hj => ?_⟩
      refine ⟨x', (hx'.2 x' (by omega)).mp (Nat.le_refl _), fun hH => ?_⟩
      have := (hx.2 x' (by omega)).mpr (qj_HC_more (by omega) hH)
      omega
theorem qj_Is_uniq {F : Nat} {Q : Nat → Prop} {x y : Nat} (hx : qj_Is F Q x) (hy : qj_Is F Q y) : x = y := by
  have h1 := hx.1
  have h2 := hy.1
  have h3 : x < F → y ≤ x := fun h => (hy.2 x h).mpr ((hx.2 x h).mp (Nat.le_refl x))
  have h4 : y < F → x ≤ y := fun h => (hx.2 y h).mpr ((hy.2 y h).mp (Nat.le_refl y))
  omega
theorem qy_rides20 (post : Int32 → SY → Prop) {d : qj_D} {a t b n l : Nat} (hb : b < 8) (off th : Nat → Int32) (hAt : qy_At d a t 12 th) (hn : qj_Is 100000 (qj_H d (qj_C d a t 12) b) n) (hn2 : n ≤ 2000) (hl : qj_lst d a t b 12 l)
    (hp : post (nI l) (qy_S d off th)) : ∀ e k, k + e = l → wY_rides_20 post (nI b) (nI n) (nI (qj_L d)) (nI (qj_T d)) (qa_len d) (qa_stp d) (qa_aft d) (qa_tl d) (qa_st d) (qa_wk d) off th (e + 1) (nI k) := by
  obtain ⟨hl1, hl2, hl3⟩ := hl
  intro e
  induction e with
  | zero =>
    intro k hk
    have ek : k = l := by omega
    subst ek
    by_cases h12 : k = 12
    · exact br_t (by rw [h12]; decide) hp
    · refine br_f (nI_ge (b := 12) (by omega) (by decide)) ?_
      refine qy_best _ (K := k) (K0 := 12) (by omega) (by omega) hb off th hAt ?_
      intro y hy
      have e : y = n := by
        refine qj_Is_uniq (qj_Is_iff ?_ hy) hn
        exact fun τ hτ => ⟨fun hH => qj_HC_more (by omega) hH, fun hH => hl2 τ (by omega) hH⟩
      exact br_t (by rw [e]) hp
  | succ e ih =>
    intro k hk
    refine br_f (nI_ge (b := 12) (by omega) (by decide)) ?_
    refine qy_best _ (K := k) (K0 := 12) (by omega) (by omega) hb off th hAt ?_
    intro y hy
    have hy1 := hy.1
    have e : y ≠ n := by
      intro e
      obtain ⟨τ, h4, h5⟩ := hl3 k (by omega)
      have hk' : qj_H d (qj_C d a t k) b n := (hy.2 n (by omega)).mp (by omega)
      have hle : n ≤ τ := by
        by_cases hτ : τ < 100000
        · exact (hn.2 τ hτ).mpr h4
        · omega
      exact h5 (qj_HC_up hk' hle)
    exact br_f (fun hh => e ((nI_eq (by omega) (by omega)).mp hh)) (nm_r (nI_1 k) (ih (k + 1) (by omega)))
theorem i_vc_rides {k : Nat} {u : SX} {v : SY} (I : i_Rel k u v) (hk : k + 5 ≤ 2560) (v1 : Int32) (v2 : Int32) (v3 : Int32) : wpX_rides (fun r u' => wpY_rides (fun r' v' => r' = r ∧ i_Rel (k + 5) u' v') v v1 v2 v3) u v1 v2 v3 := by
  obtain ⟨d, lt, off, rch, off', th, hd, hlt, rfl, rfl⟩ := I
  unfold wpX_rides qx_S
  dsimp only
  rcases qj_fault v1 v2 v3 with ⟨f, h0, hneg, hX, hY⟩ | ⟨a, b, t, ha, hb, ht, rfl, rfl, rfl⟩
  · refine hX _ ?_
    refine br_f h0 ?_
    unfold wpY_rides qy_S
    dsimp only
    refine qy_earliest_no _ off' th hneg hY ?_
    exact br_f hneg ⟨rfl, qj_rel hd hlt⟩
  refine qx_fault_ok ha hb ht ?_
  refine br_t rfl ?_
  refine qx_beginAt _ hd ha ht lt off rch ?_
  intro off2 rch2 hAt2
  refine ⟨13, qx_rides28 _ hd hb lt ?_ 12 0 off2 rch2 0 (by omega) hAt2 ⟨Nat.le_refl 0, fun τ _ hH => hH, fun j hj => absurd hj (Nat.not_lt_zero j)⟩⟩
  intro off3 rch3 l x hx hl
  refine ⟨fun e1 => ?_, fun e1 => ?_⟩
  · unfold wpY_rides qy_S
    dsimp only
    refine qy_earliest _ hd ha ht hb off' th ?_
    intro off4 th4 n hAt4 hn
    rcases qj_agree (fun τ hτ => qj_HC_lim hd ht hτ) hx hn with ⟨h1, h2⟩ | ⟨h1, h2⟩
    · exact ⟨fun _ => br_f (by decide) ⟨rfl, qj_rel hd hlt⟩, fun hh => absurd h2 hh⟩
    · omega
  · unfold wpY_rides qy_S
    dsimp only
    refine qy_earliest _ hd ha ht hb off' th ?_
    intro off4 th4 n hAt4 hn
    rcases qj_agree (fun τ hτ => qj_HC_lim hd ht hτ) hx hn with ⟨h1, h2⟩ | ⟨h1, h2⟩
    · exact absurd h1 e1
    · refine ⟨fun hh => by omega, fun _ => br_t (nI_pos' (by omega)) ⟨l + 1, ?_⟩⟩
      exact qy_rides20 _ hb off4 th4 hAt4 hn (by omega) hl ⟨rfl, qj_rel hd hlt⟩ l 0 (by omega)
