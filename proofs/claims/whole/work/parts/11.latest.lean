/-- who begins at a at y is at b by t -/
def qj_good (d : qj_D) (a b t y : Nat) : Prop := y ≤ t ∧ qj_H d (qj_C d a y 12) b t
theorem qj_good_anti {d : qj_D} {a b t y y' : Nat} (h : y' ≤ y) (hg : qj_good d a b t y) : qj_good d a b t y' := ⟨Nat.le_trans h hg.1, qj_HC_early h hg.2⟩
/-- the halving steps: 512, 256 .. 1, 0 -/
def qj_hs : Nat → Nat
  | 0 => 0
  | q + 1 => 2 ^ q
theorem qj_hs_half (q : Nat) : 2 ^ q / 2 = qj_hs q := by
  cases q with
  | zero => rfl
  | succ q =>
    show 2 ^ (q + 1) / 2 = 2 ^ q
    rw [Nat.pow_succ, Nat.mul_div_cancel _ (by decide)]
theorem qj_m1 {p : Nat} (h : 0 < p) : nI p + (-1) = nI (p - 1) := by
  obtain ⟨q, rfl⟩ : ∃ q, p = q + 1 := ⟨p - 1, by omega⟩
  rw [pk_m1, Nat.add_sub_cancel]
theorem qj_e7 (g p : Nat) : nI g + (-1) + nI p = nI (g + p) + (-1) := by
  rw [Int32.add_assoc, Int32.add_comm (-1) (nI p), ← Int32.add_assoc, nI_add]
/-- the answer of latest: g is one more than the last good time, 0 if there is none -/
def qj_ans (g : Nat) : Int32 := if g = 0 then -5 else nI (g - 1)
theorem qx_arrives (post : Int32 → SX → Prop) {d : qj_D} (hd : qj_ok d) {a b t y : Nat} (ha : a < 8) (hb : b < 8) (ht : t ≤ 1000) (hy : y ≤ t) (lt off rch : Nat → Int32)
    (h1 : ∀ off' rch', qj_good d a b t y → post 1 (qx_S d lt off' rch')) (h0 : ∀ off' rch', ¬ qj_good d a b t y → post 0 (qx_S d lt off' rch')) {x : Int32} (hx : x = nI y) : wpX_arrivesBy post (qx_S d lt off rch) (nI a) (nI b) x (nI t) := by
  subst hx
  unfold wpX_arrivesBy qx_S
  dsimp only
  refine qx_search (K := 12) _ hd ha (t := y) (by omega) (by decide) lt off rch ?_
  intro off' rch' hAt
  obtain ⟨x, ex, hx⟩ := qx_val hb hAt
  have hx1 := hx.1
  have hxt := hx.2 t (by omega)
  refine ⟨pk_in b 8 hb, pk_lt t x (fun hlt => h0 off' rch' ?_) (fun hge => h1 off' rch' ⟨hy, hxt.mp hge⟩) rfl ex⟩
  intro hg
  have := hxt.mpr hg.2
  omega
theorem qx_latest24 (post : Int32 → SX → Prop) {d : qj_D} (hd : qj_ok d) {a b t : Nat} (ha : a < 8) (hb : b < 8) (ht : t ≤ 1000) (lt : Nat → Int32)
    (h : ∀ off rch g, (g = 0 ∨ qj_good d a b t (g - 1)) → (∀ y, g ≤ y → ¬ qj_good d a b t y) → post (qj_ans g) (qx_S d lt off rch)) :
    ∀ (q g : Nat) (off rch : Nat → Int32), q ≤ 10 → (g = 0 ∨ qj_good d a b t (g - 1)) → (∀ y, g + 2 ^ q ≤ y + 1 → ¬ qj_good d a b t y) →
      wX_latest_24 post (nI a) (nI b) (nI t) (q + 1) (nI g + (-1)) (nI (qj_hs q)) (nI (qj_L d)) (nI (qj_T d)) (qa_stp d) (qa_aft d) (qa_len d) lt (qa_tl d) (qa_st d) (qa_wk d) off rch := by
  intro q
  induction q with
  | zero =>
    intro g off rch hq hg hu
    have hh := h off rch g hg (fun y hy => hu y (by omega))
    refine br_t (by decide) ?_
    by_cases e : g = 0
    · subst e
      exact br_f (by decide) hh
    · rw [qj_ans, if_neg e] at hh
      have hgt : g ≤ t + 1 := by
        rcases hg with h1 | h1
        · omega
        · have := h1.1; omega
      rw [qj_m1 (by omega)]
      exact br_t (nI_pos' (by omega)) hh
  | succ q ih =>
    intro g off rch hq hg hu
    have hgt : g ≤ t + 1 := by
      rcases hg with h1 | h1
      · omega
      · have := h1.1; omega
    have hp1 : 1 ≤ 2 ^ q := Nat.one_le_two_pow
    have hp2 : 2 ^ q ≤ 2 ^ 9 := Nat.pow_le_pow_right (by decide) (by omega)
    have hp3 : 2 ^ (q + 1) = 2 ^ q * 2 := Nat.pow_succ 2 q
    have ehalf : nI (2 ^ q) / 2 = nI (qj_hs q) := by
      rw [← qj_hs_half q]
      exact pk_div (d := 2) (by omega) (by decide) (by decide)
    have e7 : nI (g + 2 ^ q) + (-1) = nI (g + 2 ^ q - 1) := qj_m1 (by omega)
    refine br_f (nI_nle (n := 2 ^ q) (by omega) (by omega)) (nm_r (qj_e7 g (2 ^ q)) ?_)
    refine pk_lt t (g + 2 ^ q - 1) (fun hlt => ⟨by decide, nm_r ehalf (ih g off rch (by omega) hg ?_)⟩) (fun hge => ?_) rfl e7
    · intro y hy hgy
      have := hgy.1
      omega
    · refine qx_arrives _ hd ha hb ht (y := g + 2 ^ q - 1) hge lt off rch ?_ ?_ e7
      · intro off' rch' hgood
        refine br_f qj_10 ⟨by decide, nm_r ehalf (ih (g + 2 ^ q) off' rch' (by omega) (Or.inr hgood) ?_)⟩
        exact fun y hy => hu y (by omega)
      · intro off' rch' hgood
        refine br_t rfl ⟨by decide, nm_r ehalf (ih g off' rch' (by omega) hg ?_)⟩
        exact fun y hy hgy => hgood (qj_good_anti (by omega) hgy)
theorem qy_latest20 (post : Int32 → SY → Prop) {d : qj_D} (hd : qj_ok d) {a b t g : Nat} (ha : a < 8) (hb : b < 8) (ht : t ≤ 1000) (hg : g = 0 ∨ qj_good d a b t (g - 1)) (hu : ∀ y, g ≤ y → ¬ qj_good d a b t y)
    (h : ∀ off th, post (qj_ans g) (qy_S d off th)) : ∀ (y : Nat) (off th : Nat → Int32), g ≤ y → y ≤ t + 1 → wY_latest_20 post (nI a) (nI b) (nI t) (y + 1) (nI y + (-1)) (nI (qj_L d)) (nI (qj_T d)) (qa_len d) (qa_stp d) (qa_aft d) (qa_tl d) (qa_st d) (qa_wk d) off th := by
  intro y
  induction y with
  | zero =>
    intro off th hgy hyt
    have hh := h off th
    rw [qj_ans, if_pos (by omega)] at hh
    exact br_t (by decide) hh
  | succ y ih =>
    intro off th hgy hyt
    rw [pk_m1]
    refine br_f (nI_pos (by omega)) ?_
    refine qy_search (K := 8) _ hd ha (t := y) (by omega) (by decide) off th ?_
    intro off' th' hAt
    refine qy_best _ (K := 8) (K0 := 8) (by decide) (by decide) hb off' th' hAt ?_
    intro n hn
    have hn1 := hn.1
    have hnt := hn.2 t (by omega)
    refine pk_lt t n (fun hlt => nm_e (ih off' th' ?_ (by omega))) (fun hge => ?_)
    · have hng : ¬ qj_good d a b t y := by
        intro hgood
        have := hnt.mpr (qj_eight hd ha hgood.2)
        omega
      by_cases e : g = y + 1
      · rcases hg with h1 | h1
        · omega
        · rw [e, Nat.add_sub_cancel] at h1
          exact absurd h1 hng
      · omega
    · have hgood : qj_good d a b t y := ⟨by omega, qj_HC_more (by decide) (hnt.mp hge)⟩
      have e : g = y + 1 := by
        by_cases h1 : g ≤ y
        · exact absurd hgood (hu y h1)
        · omega
      have hh := h off' th'
      rw [qj_ans, if_neg (by omega), e, Nat.add_sub_cancel] at hh
      exact hh
theorem i_vc_latest {k : Nat} {u : SX} {v : SY} (I : i_Rel k u v) (hk : k + 5 ≤ 2560) (v1 : Int32) (v2 : Int32) (v3 : Int32) : wpX_latest (fun r u' => wpY_latest (fun r' v' => r' = r ∧ i_Rel (k + 5) u' v') v v1 v2 v3) u v1 v2 v3 := by
  obtain ⟨d, lt, off, rch, off', th, hd, hlt, rfl, rfl⟩ := I
  unfold wpX_latest qx_S
  dsimp only
  unfold wpY_latest qy_S
  dsimp only
  rcases qj_fault v1 v2 v3 with ⟨f, h0, hneg, hX, hY⟩ | ⟨a, b, t, ha, hb, ht, rfl, rfl, rfl⟩
  · refine hX _ ?_
    refine br_f h0 ?_
    refine hY _ d off' th ?_
    exact br_f hneg ⟨rfl, qj_rel hd hlt⟩
  refine qx_fault_ok ha hb ht ?_
  refine br_t rfl ⟨11, ?_⟩
  refine qx_latest24 _ hd ha hb ht lt ?_ 10 0 off rch (by decide) (Or.inl rfl) ?_
  · intro off2 rch2 g hg hu
    refine qy_fault_ok ha hb ht ?_
    refine br_t (by decide) ⟨t + 1 + 1, ?_⟩
    have hgt : g ≤ t + 1 := by
      rcases hg with h1 | h1
      · omega
      · have := h1.1; omega
    have hh := qy_latest20 (fun r' v' => r' = qj_ans g ∧ i_Rel (k + 5) (qx_S d lt off2 rch2) v') hd ha hb ht hg hu (fun off3 th3 => ⟨rfl, qj_rel hd hlt⟩) (t + 1) off' th hgt (Nat.le_refl _)
    rw [pk_m1] at hh
    exact hh
  · intro y hy hgy
    have := hgy.1
    omega
