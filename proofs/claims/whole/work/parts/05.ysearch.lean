/-- the reference's scratch after rounds 0 to K from a at t -/
def qy_At (d : qj_D) (a t K : Nat) (th : Nat → Int32) : Prop := ∃ r : Nat → Nat → Nat,
  ∀ k, k ≤ K → ∀ s, s < 8 → th (k * 8 + s) = nI (r k s) ∧ qj_Is 100000 (qj_H d (qj_O d a t k) s) (r k s)
theorem qy_At_s {d : qj_D} {a t K : Nat} {th th' : Nat → Int32} {w : Nat → Nat} (h : qy_At d a t K th) (hb : ∀ j, j < (K + 1) * 8 → th' j = th j)
    (hw : ∀ s, s < 8 → th' ((K + 1) * 8 + s) = nI (w s) ∧ qj_Is 100000 (qj_H d (qj_O d a t (K + 1)) s) (w s)) : qy_At d a t (K + 1) th' := by
  obtain ⟨r, hr⟩ := h
  refine ⟨fun k s => if k ≤ K then r k s else w s, fun k hk s hs => ?_⟩
  by_cases e : k ≤ K
  · have := hr k e s hs
    simp only [if_pos e]
    rw [hb _ (by omega)]
    exact this
  · have ek : k = K + 1 := by omega
    subst ek
    simp only [if_neg e]
    exact hw s hs
/-- a ride that is boarded at one of the first x places, six a trip -/
def qj_Q (d : qj_D) (r : Nat → Nat) (x s τ : Nat) : Prop := ∃ m i, m * 6 + i < x ∧ i < 6 ∧ r (qj_stp d (qj_tl d m * 6 + i)) ≤ qj_st d m + qj_aft d (qj_tl d m * 6 + i) ∧ qj_J d m i (qj_len d (qj_tl d m)) s τ
theorem qj_Q_0 {d : qj_D} {r : Nat → Nat} {s τ : Nat} : ¬ qj_Q d r 0 s τ := by
  rintro ⟨m, i, h1, _⟩
  omega
theorem qj_Q_s {d : qj_D} {r : Nat → Nat} {x s τ : Nat} : qj_Q d r (x + 1) s τ ↔ (qj_Q d r x s τ ∨ (r (qj_stp d (qj_tl d (x / 6) * 6 + x % 6)) ≤ qj_st d (x / 6) + qj_aft d (qj_tl d (x / 6) * 6 + x % 6) ∧ qj_J d (x / 6) (x % 6) (qj_len d (qj_tl d (x / 6))) s τ)) := by
  constructor
  · rintro ⟨m, i, h1, h2, h3, h4⟩
    by_cases e : m * 6 + i = x
    · have e1 : x / 6 = m := by omega
      have e2 : x % 6 = i := by omega
      rw [e1, e2]
      exact Or.inr ⟨h3, h4⟩
    · exact Or.inl ⟨m, i, by omega, h2, h3, h4⟩
  · rintro (⟨m, i, h1, h2, h3, h4⟩ | ⟨h3, h4⟩)
    · exact ⟨m, i, by omega, h2, h3, h4⟩
    · exact ⟨x / 6, x % 6, by omega, by omega, h3, h4⟩
theorem qj_Q_P {d : qj_D} (hd : qj_ok d) {r : Nat → Nat} {s τ : Nat} : qj_Q d r (qj_T d * 6) s τ ↔ ∃ m, m < qj_T d ∧ qj_P d r m (qj_len d (qj_tl d m)) s τ := by
  constructor
  · rintro ⟨m, i, h1, h2, h3, j, h4, h5, h6, h7⟩
    exact ⟨m, by omega, i, j, h4, h5, h3, h6, h7⟩
  · rintro ⟨m, hm, i, j, h4, h5, h3, h6, h7⟩
    have := qj_ok_len hd (qj_tl d m)
    exact ⟨m, i, by omega, by omega, h3, j, h4, h5, h6, h7⟩
theorem qj_div6 {x : Nat} (h : x < 1000) : nI x / 6 = nI (x / 6) := pk_div (d := 6) (by omega) (by decide) (by decide)
theorem qj_rem6 {x : Nat} (h : x < 1000) : nI x - nI x / 6 * 6 = nI (x % 6) := pk_rem (d := 6) (by omega) (by decide) (by decide)
theorem qy_search83 (post : SY → Prop) (J43 : Int32 → Int32 → Int32 → (Nat → Int32) → (Nat → Int32) → (Nat → Int32) → (Nat → Int32) → (Nat → Int32) → (Nat → Int32) → (Nat → Int32) → (Nat → Int32) → Prop) (x3 : Int32) {d : qj_D} (hd : qj_ok d) {a t k : Nat} (hk : k < 12) (th : Nat → Int32) (hAt : qy_At d a t k th) {r : Nat → Nat}
    (hr : ∀ s, s < 8 → th (k * 8 + s) = nI (r s) ∧ qj_Is 100000 (qj_H d (qj_O d a t k) s) (r s))
    (h : ∀ off' th', qy_At d a t (k + 1) th' → J43 (nI (k + 2)) (nI (qj_L d)) (nI (qj_T d)) (qa_len d) (qa_stp d) (qa_aft d) (qa_tl d) (qa_st d) (qa_wk d) off' th') :
    ∀ (e x : Nat) (off : Nat → Int32) (o : Nat → Nat), x + e = qj_T d * 6 → (∀ s, s < 8 → off ((k + 1) * 8 + s) = nI (o s) ∧ o s ≤ 100000) → (∀ s, s < 8 → ∀ τ, o s ≤ τ ↔ (100000 ≤ τ ∨ qj_Q d r x s τ)) →
      wY_search_83 post J43 x3 (nI (k + 1)) (e + 1) (nI x) (nI (qj_L d)) (nI (qj_T d)) (qa_len d) (qa_stp d) (qa_aft d) (qa_tl d) (qa_st d) (qa_wk d) off th := by
  have hT := qj_ok_T hd
  have eT6 : nI (qj_T d) * 6 = nI (qj_T d * 6) := qj_x6 _
  intro e
  induction e with
  | zero =>
    intro x off o hx ho hinv
    have ex : x = qj_T d * 6 := by omega
    subst ex
    refine br_t (by rw [eT6]; exact nI_le (by omega) (by omega)) ?_
    refine qy_walk _ hd off th (by omega) ho ?_
    intro th' h1 h2
    show ∀ x4 : Int32, x4 = nI (k + 1) + 1 → J43 x4 (nI (qj_L d)) (nI (qj_T d)) (qa_len d) (qa_stp d) (qa_aft d) (qa_tl d) (qa_st d) (qa_wk d) off th'
    refine nm_r (nI_1 (k + 1)) (h off th' (qy_At_s hAt h2 (w := fun s => qj_wf d o s 8) ?_))
    intro s hs
    refine ⟨h1 s hs, qj_wf_is ?_ hs⟩
    intro s hs
    refine ⟨(ho s hs).2, fun τ hτ => ?_⟩
    rw [hinv s hs τ, qj_Q_P hd]
    constructor
    · rintro (h3 | ⟨m, hm, h3⟩)
      · omega
      · exact ⟨m, hm, (qj_P_R hd (by omega) (fun s hs => (hr s hs).2)).mp h3⟩
    · rintro ⟨m, hm, h3⟩
      exact Or.inr ⟨m, hm, (qj_P_R hd (by omega) (fun s hs => (hr s hs).2)).mpr h3⟩
  | succ e ih =>
    intro x off o hx ho hinv
    have hm : x / 6 < 12 := by omega
    have htl := qj_ok_tl hd (x / 6)
    have hlen := qj_ok_len hd (qj_tl d (x / 6))
    have e1 : nI x / 6 = nI (x / 6) := qj_div6 (by omega)
    have e2 : nI x - nI x / 6 * 6 = nI (x % 6) := qj_rem6 (by omega)
    have etl : qa_tl d (nI x / 6).toNatClampNeg = nI (qj_tl d (x / 6)) := by rw [e1, nI_clamp (by omega)]; exact rfl
    have elen : qa_len d (qa_tl d (nI x / 6).toNatClampNeg).toNatClampNeg = nI (qj_len d (qj_tl d (x / 6))) := by rw [etl, nI_clamp (by omega)]; exact rfl
    refine br_f (by rw [eT6]; exact nI_ge (by omega) (by omega)) ⟨by decide, by decide, pk_in (x / 6) 12 hm e1, pk_in (qj_tl d (x / 6)) 5 htl etl, ?_⟩
    refine pk_le (qj_len d (qj_tl d (x / 6))) (x % 6) (fun hle => nm_r (nI_1 x) (ih (x + 1) off o (by omega) ho ?_)) (fun hgt => ⟨by decide, by decide, ?_⟩) elen e2
    · intro s hs τ
      rw [hinv s hs τ, qj_Q_s]
      refine ⟨fun hh => hh.elim Or.inl (fun h2 => Or.inr (Or.inl h2)), ?_⟩
      rintro (h1 | h2 | ⟨_, j, h4, h5, _⟩)
      · exact Or.inl h1
      · exact Or.inr h2
      · omega
    · rw [e2, e1]
      refine qy_ride _ hd off th hk hm hgt ho (fun s hs => ⟨(hr s hs).1, (hr s hs).2.1⟩) ?_
      intro off' o' ho' hinv'
      show ∀ x1 : Int32, x1 = nI x + 1 → wY_search_83 post J43 x3 (nI (k + 1)) (e + 1) x1 (nI (qj_L d)) (nI (qj_T d)) (qa_len d) (qa_stp d) (qa_aft d) (qa_tl d) (qa_st d) (qa_wk d) off' th
      refine nm_r (nI_1 x) (ih (x + 1) off' o' (by omega) ho' ?_)
      intro s hs τ
      rw [hinv' s hs τ, hinv s hs τ, qj_Q_s]
      exact or_assoc
theorem qy_search52 (post : SY → Prop) (J43 : Int32 → Int32 → Int32 → (Nat → Int32) → (Nat → Int32) → (Nat → Int32) → (Nat → Int32) → (Nat → Int32) → (Nat → Int32) → (Nat → Int32) → (Nat → Int32) → Prop) (x3 : Int32) {d : qj_D} (hd : qj_ok d) {a t k : Nat} (hk : k < 12) (th : Nat → Int32) (hAt : qy_At d a t k th)
    (h : ∀ off' th', qy_At d a t (k + 1) th' → J43 (nI (k + 2)) (nI (qj_L d)) (nI (qj_T d)) (qa_len d) (qa_stp d) (qa_aft d) (qa_tl d) (qa_st d) (qa_wk d) off' th') :
    ∀ (e i : Nat) (off : Nat → Int32), i + e = 8 → (∀ s, s < i → off ((k + 1) * 8 + s) = nI 100000) →
      wY_search_52 post J43 x3 (nI (k + 1)) (nI (qj_L d)) (nI (qj_T d)) (e + 1) (nI i) (qa_len d) (qa_stp d) (qa_aft d) (qa_tl d) (qa_st d) (qa_wk d) off th := by
  intro e
  induction e with
  | zero =>
    intro i off hi hoff
    have ei : i = 8 := by omega
    subst ei
    refine br_t (nI_le (b := 8) (a := 8) (by omega) (by decide)) ⟨qj_T d * 6 + 1, ?_⟩
    have hAt' := hAt
    obtain ⟨r, hr⟩ := hAt'
    refine qy_search83 post J43 x3 hd hk th hAt (r := r k) (hr k (Nat.le_refl k)) h (qj_T d * 6) 0 off (fun _ => 100000) (by omega) (fun s hs => ⟨hoff s hs, Nat.le_refl _⟩) ?_
    exact fun s hs τ => ⟨Or.inl, fun hh => hh.elim id (fun h2 => absurd h2 qj_Q_0)⟩
  | succ e ih =>
    intro i off hi hoff
    refine br_f (nI_ge (b := 8) (by omega) (by decide)) ⟨pk_in ((k + 1) * 8 + i) 104 (by omega) (qj_ix8 (k + 1) i), nm_r (e' := upd off ((k + 1) * 8 + i) (nI 100000)) (by rw [qj_ix8, nI_clamp (by omega)]; exact rfl) (nm_r (nI_1 i) (ih (i + 1) _ (by omega) ?_))⟩
    intro s hs
    by_cases e : s = i
    · subst e; exact pk_us
    · rw [pk_un (by omega)]; exact hoff s (by omega)
theorem qy_search43 (post : SY → Prop) {d : qj_D} (hd : qj_ok d) {a t K : Nat} (hK : K ≤ 12)
    (h : ∀ off' th', qy_At d a t K th' → post (qy_S d off' th')) :
    ∀ (e k : Nat) (off th : Nat → Int32), k + e = K → qy_At d a t k th → wY_search_43 post (nI K) (e + 1) (nI (k + 1)) (nI (qj_L d)) (nI (qj_T d)) (qa_len d) (qa_stp d) (qa_aft d) (qa_tl d) (qa_st d) (qa_wk d) off th := by
  intro e
  induction e with
  | zero =>
    intro k off th hk hAt
    have ek : k = K := by omega
    subst ek
    exact br_t (nI_lt (by omega) (by omega)) (h off th hAt)
  | succ e ih =>
    intro k off th hk hAt
    refine br_f (nI_nlt (by omega) (by omega)) ⟨9, ?_⟩
    exact qy_search52 post _ (nI K) hd (by omega) th hAt (fun off' th' hAt' => ih (k + 1) off' th' (by omega) hAt') 8 0 off (by omega) (fun s hs => absurd hs (by omega))
theorem qy_search3 (post : SY → Prop) {d : qj_D} (hd : qj_ok d) {a t K : Nat} (ha : a < 8) (ht : t ≤ 1000) (hK : K ≤ 12) (th : Nat → Int32)
    (h : ∀ off' th', qy_At d a t K th' → post (qy_S d off' th')) :
    ∀ (e i : Nat) (off : Nat → Int32), i + e = 8 → (∀ s, s < i → off s = nI (if s = a then t else 100000)) →
      wY_search_3 post (nI a) (nI t) (nI K) (nI (qj_L d)) (nI (qj_T d)) (e + 1) (nI i) (qa_len d) (qa_stp d) (qa_aft d) (qa_tl d) (qa_st d) (qa_wk d) off th := by
  intro e
  induction e with
  | zero =>
    intro i off hi hoff
    have ei : i = 8 := by omega
    subst ei
    refine br_t (nI_le (b := 8) (a := 8) (by omega) (by decide)) ?_
    have hI : ∀ s, s < 8 → qj_Is 100000 (qj_O d a t 0 s) (if s = a then t else 100000) := by
      intro s hs
      by_cases e : s = a
      · rw [if_pos e]
        exact ⟨by omega, fun τ hτ => ⟨fun hh => ⟨e, hh⟩, fun hh => hh.2⟩⟩
      · rw [if_neg e]
        exact ⟨Nat.le_refl _, fun τ hτ => ⟨fun hh => by omega, fun hh => absurd hh.1 e⟩⟩
    refine qy_walk (k := 0) (o := fun s => if s = a then t else 100000) _ hd off th (by omega) ?_ ?_
    · intro s hs
      refine ⟨?_, (hI s hs).1⟩
      rw [show 0 * 8 + s = s from by omega]
      exact hoff s hs
    · intro th' h1 h2
      refine ⟨K + 1, qy_search43 post hd hK h K 0 off th' (by omega) ⟨fun _ s => qj_wf d (fun s => if s = a then t else 100000) s 8, ?_⟩⟩
      intro k hk s hs
      have ek : k = 0 := by omega
      subst ek
      exact ⟨h1 s hs, qj_wf_is hI hs⟩
  | succ e ih =>
    intro i off hi hoff
    refine br_f (nI_ge (b := 8) (by omega) (by decide)) ?_
    refine pk_eq i a (fun hia => ⟨pk_in i 104 (by omega), nm_r (e' := upd off i (nI t)) (by rw [nI_clamp (by omega)]) (nm_r (nI_1 i) (ih (i + 1) _ (by omega) ?_))⟩) (fun hia => ⟨pk_in i 104 (by omega), nm_r (e' := upd off i (nI 100000)) (by rw [nI_clamp (by omega)]; exact rfl) (nm_r (nI_1 i) (ih (i + 1) _ (by omega) ?_))⟩)
    · intro s hs
      by_cases e : s = i
      · rw [if_pos (by omega), e]; exact pk_us
      · rw [pk_un e]; exact hoff s (by omega)
    · intro s hs
      by_cases e : s = i
      · rw [if_neg (by omega), e]; exact pk_us
      · rw [pk_un e]; exact hoff s (by omega)
theorem qy_search (post : SY → Prop) {d : qj_D} (hd : qj_ok d) {a t K : Nat} (ha : a < 8) (ht : t ≤ 1000) (hK : K ≤ 12) (off th : Nat → Int32)
    (h : ∀ off' th', qy_At d a t K th' → post (qy_S d off' th')) : wpY_search post (qy_S d off th) (nI a) (nI t) (nI K) :=
  ⟨9, qy_search3 post hd ha ht hK th h 8 0 off (by omega) (fun s hs => absurd hs (by omega))⟩
theorem qy_best6 (post : Int32 → Prop) {d : qj_D} {a t K K0 b : Nat} (hK : K ≤ K0) (hK0 : K0 ≤ 12) (hb : b < 8) (off th : Nat → Int32) (hAt : qy_At d a t K0 th)
    (h : ∀ n, qj_Is 100000 (qj_H d (qj_C d a t K) b) n → post (nI n)) :
    ∀ e k v, k + e = K + 1 → qj_Is 100000 (fun τ => ∃ k', k' < k ∧ qj_H d (qj_O d a t k') b τ) v → wY_best_6 post (nI b) (nI K) (nI (qj_L d)) (nI (qj_T d)) (qa_len d) (qa_stp d) (qa_aft d) (qa_tl d) (qa_st d) (qa_wk d) off th (e + 1) (nI v) (nI k) := by
  obtain ⟨r, hr⟩ := hAt
  intro e
  induction e with
  | zero =>
    intro k v hk hv
    have ek : k = K + 1 := by omega
    subst ek
    refine br_t (nI_lt (by omega) (by omega)) (h v (qj_Is_iff ?_ hv))
    intro τ hτ
    rw [qj_HC]
    constructor
    · rintro ⟨k', h1, h2⟩
      exact ⟨k', by omega, h2⟩
    · rintro ⟨k', h1, h2⟩
      exact ⟨k', by omega, h2⟩
  | succ e ih =>
    intro k v hk hv
    have hrk := hr k (by omega) b hb
    have hv1 := hv.1
    have hr1 := hrk.2.1
    have et : th (nI k * 8 + nI b).toNatClampNeg = nI (r k b) := by
      rw [qj_ix8, nI_clamp (by omega), hrk.1]
    have ei : vp_in (nI k * 8 + nI b) 104 := pk_in (k * 8 + b) 104 (by omega) (qj_ix8 k b)
    refine br_f (nI_nlt (by omega) (by omega)) ⟨ei, pk_le v (r k b) (fun hle => nm_r (nI_1 k) (ih (k + 1) v (by omega) ⟨hv1, ?_⟩)) (fun hgt => ⟨ei, nm_r et (nm_r (nI_1 k) (ih (k + 1) (r k b) (by omega) ⟨hr1, ?_⟩))⟩) rfl et⟩
    · intro τ hτ
      constructor
      · intro hh
        obtain ⟨k', h1, h2⟩ := (hv.2 τ hτ).mp hh
        exact ⟨k', by omega, h2⟩
      · rintro ⟨k', h1, h2⟩
        by_cases e : k' = k
        · subst e
          have := (hrk.2.2 τ hτ).mpr h2
          omega
        · exact (hv.2 τ hτ).mpr ⟨k', by omega, h2⟩
    · intro τ hτ
      constructor
      · exact fun hh => ⟨k, by omega, (hrk.2.2 τ hτ).mp hh⟩
      · rintro ⟨k', h1, h2⟩
        by_cases e : k' = k
        · subst e
          exact (hrk.2.2 τ hτ).mpr h2
        · have := (hv.2 τ hτ).mpr ⟨k', by omega, h2⟩
          omega
theorem qy_best (post : Int32 → Prop) {d : qj_D} {a t K K0 b : Nat} (hK : K ≤ K0) (hK0 : K0 ≤ 12) (hb : b < 8) (off th : Nat → Int32) (hAt : qy_At d a t K0 th)
    (h : ∀ n, qj_Is 100000 (qj_H d (qj_C d a t K) b) n → post (nI n)) : wpY_best post (qy_S d off th) (nI b) (nI K) := by
  refine ⟨K + 1 + 1, qy_best6 post hK hK0 hb off th hAt h (K + 1) 0 100000 (by omega) ⟨Nat.le_refl _, fun τ hτ => ⟨fun hh => by omega, ?_⟩⟩⟩
  rintro ⟨k', h1, _⟩
  omega
