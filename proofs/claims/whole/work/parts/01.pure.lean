/-- a timetable in plain numbers: lines, trips, length of a line, stop and time at a place (line * 6 + i),
    a trip's line and start, the footpaths (from * 8 + to; 0: none) -/
abbrev qj_D : Type := Nat × Nat × (Nat → Nat) × (Nat → Nat) × (Nat → Nat) × (Nat → Nat) × (Nat → Nat) × (Nat → Nat)
def qj_L (d : qj_D) : Nat := d.1
def qj_T (d : qj_D) : Nat := d.2.1
def qj_len (d : qj_D) : Nat → Nat := d.2.2.1
def qj_stp (d : qj_D) : Nat → Nat := d.2.2.2.1
def qj_aft (d : qj_D) : Nat → Nat := d.2.2.2.2.1
def qj_tl (d : qj_D) : Nat → Nat := d.2.2.2.2.2.1
def qj_st (d : qj_D) : Nat → Nat := d.2.2.2.2.2.2.1
def qj_wk (d : qj_D) : Nat → Nat := d.2.2.2.2.2.2.2
/-- what every timetable that calls can make keeps to -/
def qj_ok (d : qj_D) : Prop :=
  qj_L d ≤ 5 ∧ qj_T d ≤ 12 ∧ (∀ l, qj_len d l ≤ 6) ∧ (∀ l, l < qj_L d → 1 ≤ qj_len d l) ∧ (∀ j, qj_stp d j < 8) ∧
  (∀ l, l < 5 → ∀ i, i < qj_len d l → qj_aft d (l * 6 + i) ≤ 30 * i) ∧
  (∀ l, l < 5 → ∀ i j, i < j → j < qj_len d l → qj_aft d (l * 6 + i) < qj_aft d (l * 6 + j)) ∧
  (∀ m, qj_tl d m < 5) ∧ (∀ m, m < qj_T d → qj_tl d m < qj_L d) ∧ (∀ m, qj_st d m ≤ 500) ∧ (∀ j, qj_wk d j ≤ 30)
theorem qj_ok_L {d : qj_D} (h : qj_ok d) : qj_L d ≤ 5 := h.1
theorem qj_ok_T {d : qj_D} (h : qj_ok d) : qj_T d ≤ 12 := h.2.1
theorem qj_ok_len {d : qj_D} (h : qj_ok d) (l : Nat) : qj_len d l ≤ 6 := h.2.2.1 l
theorem qj_ok_one {d : qj_D} (h : qj_ok d) {l : Nat} (hl : l < qj_L d) : 1 ≤ qj_len d l := h.2.2.2.1 l hl
theorem qj_ok_stp {d : qj_D} (h : qj_ok d) (j : Nat) : qj_stp d j < 8 := h.2.2.2.2.1 j
theorem qj_ok_aft {d : qj_D} (h : qj_ok d) {l : Nat} (hl : l < 5) {i : Nat} (hi : i < qj_len d l) : qj_aft d (l * 6 + i) ≤ 30 * i := h.2.2.2.2.2.1 l hl i hi
theorem qj_ok_inc {d : qj_D} (h : qj_ok d) {l : Nat} (hl : l < 5) {i j : Nat} (hij : i < j) (hj : j < qj_len d l) : qj_aft d (l * 6 + i) < qj_aft d (l * 6 + j) := h.2.2.2.2.2.2.1 l hl i j hij hj
theorem qj_ok_tl {d : qj_D} (h : qj_ok d) (m : Nat) : qj_tl d m < 5 := h.2.2.2.2.2.2.2.1 m
theorem qj_ok_tlL {d : qj_D} (h : qj_ok d) {m : Nat} (hm : m < qj_T d) : qj_tl d m < qj_L d := h.2.2.2.2.2.2.2.2.1 m hm
theorem qj_ok_st {d : qj_D} (h : qj_ok d) (m : Nat) : qj_st d m ≤ 500 := h.2.2.2.2.2.2.2.2.2.1 m
theorem qj_ok_wk {d : qj_D} (h : qj_ok d) (j : Nat) : qj_wk d j ≤ 30 := h.2.2.2.2.2.2.2.2.2.2 j
/-- behind what o says (off a trip at a stop by a time): there, on foot or not -/
def qj_H (d : qj_D) (o : Nat → Nat → Prop) (s τ : Nat) : Prop :=
  o s τ ∨ ∃ u, u < 8 ∧ 0 < qj_wk d (u * 8 + s) ∧ ∃ σ, o u σ ∧ σ + qj_wk d (u * 8 + s) ≤ τ
/-- a ride with trip m, boarded from what h says -/
def qj_R (d : qj_D) (h : Nat → Nat → Prop) (m s τ : Nat) : Prop :=
  ∃ i j, i < j ∧ j < qj_len d (qj_tl d m) ∧ h (qj_stp d (qj_tl d m * 6 + i)) (qj_st d m + qj_aft d (qj_tl d m * 6 + i)) ∧
    qj_stp d (qj_tl d m * 6 + j) = s ∧ qj_st d m + qj_aft d (qj_tl d m * 6 + j) ≤ τ
/-- off a trip (or at the beginning) at s by τ, after just k rides -/
def qj_O (d : qj_D) (a t : Nat) : Nat → Nat → Nat → Prop
  | 0 => fun s τ => s = a ∧ t ≤ τ
  | k + 1 => fun s τ => ∃ m, m < qj_T d ∧ qj_R d (qj_H d (qj_O d a t k)) m s τ
/-- the same after at most k rides -/
def qj_C (d : qj_D) (a t K s τ : Nat) : Prop := ∃ k, k ≤ K ∧ qj_O d a t k s τ
/-- n is the least time at which Q holds, F if there is none below F -/
def qj_Is (F : Nat) (Q : Nat → Prop) (n : Nat) : Prop := n ≤ F ∧ ∀ τ, τ < F → (n ≤ τ ↔ Q τ)
theorem qj_H_mono {d : qj_D} {o o' : Nat → Nat → Prop} (h : ∀ s τ, o s τ → o' s τ) {s τ : Nat} : qj_H d o s τ → qj_H d o' s τ := by
  rintro (h1 | ⟨u, hu, hw, σ, ho, hs⟩)
  · exact Or.inl (h _ _ h1)
  · exact Or.inr ⟨u, hu, hw, σ, h _ _ ho, hs⟩
theorem qj_R_mono {d : qj_D} {g g' : Nat → Nat → Prop} (h : ∀ s τ, g s τ → g' s τ) {m s τ : Nat} : qj_R d g m s τ → qj_R d g' m s τ := by
  rintro ⟨i, j, hij, hj, hb, hs, ht⟩
  exact ⟨i, j, hij, hj, h _ _ hb, hs, ht⟩
theorem qj_O_up {d : qj_D} {a t k s τ τ' : Nat} (h : qj_O d a t k s τ) (ht : τ ≤ τ') : qj_O d a t k s τ' := by
  cases k with
  | zero => exact ⟨h.1, Nat.le_trans h.2 ht⟩
  | succ k =>
    obtain ⟨m, hm, i, j, hij, hj, hb, hs, hτ⟩ := h
    exact ⟨m, hm, i, j, hij, hj, hb, hs, Nat.le_trans hτ ht⟩
theorem qj_H_up {d : qj_D} {o : Nat → Nat → Prop} (ho : ∀ s τ τ', o s τ → τ ≤ τ' → o s τ') {s τ τ' : Nat} (h : qj_H d o s τ) (ht : τ ≤ τ') : qj_H d o s τ' := by
  rcases h with h1 | ⟨u, hu, hw, σ, h2, hs⟩
  · exact Or.inl (ho _ _ _ h1 ht)
  · exact Or.inr ⟨u, hu, hw, σ, h2, Nat.le_trans hs ht⟩
theorem qj_O_early {d : qj_D} {a t t' : Nat} (ht : t' ≤ t) : ∀ (k s τ : Nat), qj_O d a t k s τ → qj_O d a t' k s τ := by
  intro k
  induction k with
  | zero => exact fun s τ h => ⟨h.1, Nat.le_trans ht h.2⟩
  | succ k ih =>
    rintro s τ ⟨m, hm, hr⟩
    exact ⟨m, hm, qj_R_mono (fun _ _ => qj_H_mono ih) hr⟩
theorem qj_O_lim {d : qj_D} (hd : qj_ok d) {a t : Nat} (ht : t ≤ 1000) {k s τ : Nat} (h : qj_O d a t k s τ) : qj_O d a t k s 1000 := by
  cases k with
  | zero => exact ⟨h.1, ht⟩
  | succ k =>
    obtain ⟨m, hm, i, j, hij, hj, hb, hs, hτ⟩ := h
    have h1 := qj_ok_aft hd (qj_ok_tl hd m) hj
    have h2 := qj_ok_len hd (qj_tl d m)
    have h3 := qj_ok_st hd m
    exact ⟨m, hm, i, j, hij, hj, hb, hs, by omega⟩
theorem qj_H_lim {d : qj_D} (hd : qj_ok d) {a t : Nat} (ht : t ≤ 1000) {k s τ : Nat} (h : qj_H d (qj_O d a t k) s τ) : qj_H d (qj_O d a t k) s 2000 := by
  rcases h with h1 | ⟨u, hu, hw, σ, h2, hs⟩
  · exact Or.inl (qj_O_up (qj_O_lim hd ht h1) (by omega))
  · have := qj_ok_wk hd (u * 8 + s)
    exact Or.inr ⟨u, hu, hw, 1000, qj_O_lim hd ht h2, by omega⟩
theorem qj_HC {d : qj_D} {a t K s τ : Nat} : qj_H d (qj_C d a t K) s τ ↔ ∃ k, k ≤ K ∧ qj_H d (qj_O d a t k) s τ := by
  constructor
  · rintro (⟨k, hk, h⟩ | ⟨u, hu, hw, σ, ⟨k, hk, h⟩, hs⟩)
    · exact ⟨k, hk, Or.inl h⟩
    · exact ⟨k, hk, Or.inr ⟨u, hu, hw, σ, h, hs⟩⟩
  · rintro ⟨k, hk, h⟩
    exact qj_H_mono (fun s τ ho => ⟨k, hk, ho⟩) h
theorem qj_C_step {d : qj_D} {a t K s τ : Nat} : qj_C d a t (K + 1) s τ ↔ qj_C d a t K s τ ∨ ∃ m, m < qj_T d ∧ qj_R d (qj_H d (qj_C d a t K)) m s τ := by
  constructor
  · rintro ⟨k, hk, h⟩
    by_cases hkK : k ≤ K
    · exact Or.inl ⟨k, hkK, h⟩
    · have e : k = K + 1 := by omega
      subst e
      obtain ⟨m, hm, hr⟩ := h
      exact Or.inr ⟨m, hm, qj_R_mono (fun _ _ => qj_H_mono (fun s τ ho => ⟨K, Nat.le_refl K, ho⟩)) hr⟩
  · rintro (⟨k, hk, h⟩ | ⟨m, hm, i, j, hij, hj, hb, hs, hτ⟩)
    · exact ⟨k, by omega, h⟩
    · obtain ⟨k, hk, hb⟩ := qj_HC.mp hb
      exact ⟨k + 1, by omega, m, hm, i, j, hij, hj, hb, hs, hτ⟩
theorem qj_HC_up {d : qj_D} {a t K s τ τ' : Nat} (h : qj_H d (qj_C d a t K) s τ) (ht : τ ≤ τ') : qj_H d (qj_C d a t K) s τ' :=
  qj_H_up (fun _ _ _ ⟨k, hk, ho⟩ hh => ⟨k, hk, qj_O_up ho hh⟩) h ht
theorem qj_HC_more {d : qj_D} {a t K K' s τ : Nat} (hK : K ≤ K') (h : qj_H d (qj_C d a t K) s τ) : qj_H d (qj_C d a t K') s τ :=
  qj_H_mono (fun _ _ ⟨k, hk, ho⟩ => ⟨k, Nat.le_trans hk hK, ho⟩) h
theorem qj_HC_lim {d : qj_D} (hd : qj_ok d) {a t K s τ : Nat} (ht : t ≤ 1000) (h : qj_H d (qj_C d a t K) s τ) : qj_H d (qj_C d a t K) s 2000 := by
  obtain ⟨k, hk, h⟩ := qj_HC.mp h
  exact qj_HC.mpr ⟨k, hk, qj_H_lim hd ht h⟩
theorem qj_HC_early {d : qj_D} {a t t' K s τ : Nat} (ht : t' ≤ t) (h : qj_H d (qj_C d a t K) s τ) : qj_H d (qj_C d a t' K) s τ :=
  qj_H_mono (fun _ _ ⟨k, hk, ho⟩ => ⟨k, hk, qj_O_early ht _ _ _ ho⟩) h
/-- how many of the first n keep P -/
noncomputable def qj_cnt (P : Nat → Prop) : Nat → Nat
  | 0 => 0
  | n + 1 => qj_cnt P n + @ite Nat (P n) (Classical.propDecidable (P n)) 1 0
theorem qj_cnt_le (P : Nat → Prop) : ∀ n, qj_cnt P n ≤ n := by
  intro n
  induction n with
  | zero => exact Nat.le_refl 0
  | succ n ih =>
    by_cases h : P n
    · simp only [qj_cnt, if_pos h]; omega
    · simp only [qj_cnt, if_neg h]; omega
theorem qj_cnt_mono {P Q : Nat → Prop} (h : ∀ i, P i → Q i) : ∀ n, qj_cnt P n ≤ qj_cnt Q n := by
  intro n
  induction n with
  | zero => exact Nat.le_refl 0
  | succ n ih =>
    by_cases hp : P n
    · simp only [qj_cnt, if_pos hp, if_pos (h n hp)]; omega
    · by_cases hq : Q n
      · simp only [qj_cnt, if_neg hp, if_pos hq]; omega
      · simp only [qj_cnt, if_neg hp, if_neg hq]; omega
theorem qj_cnt_lt {P Q : Nat → Prop} (h : ∀ i, P i → Q i) {u : Nat} (hp : ¬ P u) (hq : Q u) : ∀ n, u < n → qj_cnt P n < qj_cnt Q n := by
  intro n
  induction n with
  | zero => intro hu; omega
  | succ n ih =>
    intro hu
    by_cases e : u = n
    · subst e
      have := qj_cnt_mono h u
      simp only [qj_cnt, if_neg hp, if_pos hq]; omega
    · have := ih (by omega)
      by_cases hp' : P n
      · simp only [qj_cnt, if_pos hp', if_pos (h n hp')]; omega
      · by_cases hq' : Q n
        · simp only [qj_cnt, if_neg hp', if_pos hq']; omega
        · simp only [qj_cnt, if_neg hp', if_neg hq']; omega
theorem qj_least (P : Nat → Prop) : ∀ n, P n → ∃ k, k ≤ n ∧ P k ∧ ∀ j, j < k → ¬ P j := by
  intro n
  induction n using Nat.strongRecOn with
  | ind n ih =>
    intro h
    by_cases hx : ∃ j, j < n ∧ P j
    · obtain ⟨j, hj, hp⟩ := hx
      obtain ⟨k, hk, h1, h2⟩ := ih j hj hp
      exact ⟨k, by omega, h1, h2⟩
    · exact ⟨n, Nat.le_refl n, h, fun j hj hp => hx ⟨j, hj, hp⟩⟩
/-- stop u is reached off a trip before v -/
def qj_bef (d : qj_D) (a t v u : Nat) : Prop := ∃ k σ, σ < v ∧ qj_O d a t k u σ
/-- who is at s by v needs no more rides than there are stops that are reached before v -/
theorem qj_few {d : qj_D} (hd : qj_ok d) {a t : Nat} (ha : a < 8) : ∀ (v k s : Nat), qj_O d a t k s v → ∃ k', k' ≤ qj_cnt (qj_bef d a t v) 8 ∧ qj_O d a t k' s v := by
  intro v
  induction v using Nat.strongRecOn with
  | ind v ih =>
    intro k s h
    cases k with
    | zero => exact ⟨0, Nat.zero_le _, h⟩
    | succ k =>
      obtain ⟨m, hm, i, j, hij, hj, hb, hs, hτ⟩ := h
      have hinc := qj_ok_inc hd (qj_ok_tl hd m) hij hj
      have key : ∃ u σ, u < 8 ∧ σ < v ∧ qj_O d a t k u σ ∧ ∀ k', qj_O d a t k' u σ → qj_H d (qj_O d a t k') (qj_stp d (qj_tl d m * 6 + i)) (qj_st d m + qj_aft d (qj_tl d m * 6 + i)) := by
        rcases hb with h1 | ⟨u, hu, hw, σ, h2, hs2⟩
        · exact ⟨_, _, qj_ok_stp hd _, by omega, h1, fun k' h' => Or.inl h'⟩
        · exact ⟨u, σ, hu, by omega, h2, fun k' h' => Or.inr ⟨u, hu, hw, σ, h', hs2⟩⟩
      obtain ⟨u, σ, hu, hσ, hO, hH⟩ := key
      obtain ⟨σ0, hσ0, ⟨k0, hk0⟩, hmin⟩ := qj_least (fun σ => ∃ k, qj_O d a t k u σ) σ ⟨k, hO⟩
      obtain ⟨k', hk', hO'⟩ := ih σ0 (by omega) k0 u hk0
      have hlt : qj_cnt (qj_bef d a t σ0) 8 < qj_cnt (qj_bef d a t v) 8 := by
        refine qj_cnt_lt ?_ (u := u) ?_ ?_ 8 hu
        · rintro w ⟨k1, σ1, h1, h2⟩
          exact ⟨k1, σ1, by omega, h2⟩
        · rintro ⟨k1, σ1, h1, h2⟩
          exact hmin σ1 h1 ⟨k1, h2⟩
        · exact ⟨k0, σ0, by omega, hk0⟩
      exact ⟨k' + 1, by omega, m, hm, i, j, hij, hj, hH k' (qj_O_up hO' hσ0), hs, hτ⟩
theorem qj_eight {d : qj_D} (hd : qj_ok d) {a t : Nat} (ha : a < 8) {K s τ : Nat} (h : qj_H d (qj_C d a t K) s τ) : qj_H d (qj_C d a t 8) s τ := by
  have hh : ∀ s τ, qj_C d a t K s τ → qj_C d a t 8 s τ := by
    rintro s τ ⟨k, hk, ho⟩
    obtain ⟨k', hk', ho'⟩ := qj_few hd ha τ k s ho
    have := qj_cnt_le (qj_bef d a t τ) 8
    exact ⟨k', by omega, ho'⟩
  exact qj_H_mono hh h
/-- the same least time on both sides: equal, or far on both -/
theorem qj_agree {Q : Nat → Prop} (hl : ∀ τ, Q τ → Q 2000) {x y : Nat} (hx : qj_Is 1000000 Q x) (hy : qj_Is 100000 Q y) : (x = 1000000 ∧ y = 100000) ∨ (x = y ∧ x ≤ 2000) := by
  by_cases h : Q 2000
  · have h1 : x ≤ 2000 := (hx.2 2000 (by omega)).mpr h
    have h2 : y ≤ 2000 := (hy.2 2000 (by omega)).mpr h
    have h3 : Q x := (hx.2 x (by omega)).mp (Nat.le_refl x)
    have h4 : Q y := (hy.2 y (by omega)).mp (Nat.le_refl y)
    have h5 : x ≤ y := (hx.2 y (by omega)).mpr h4
    have h6 : y ≤ x := (hy.2 x (by omega)).mpr h3
    exact Or.inr ⟨by omega, h1⟩
  · refine Or.inl ⟨?_, ?_⟩
    · have h1 := hx.1
      by_cases e : x = 1000000
      · exact e
      · exact absurd (hl x ((hx.2 x (by omega)).mp (Nat.le_refl x))) h
    · have h1 := hy.1
      by_cases e : y = 100000
      · exact e
      · exact absurd (hl y ((hy.2 y (by omega)).mp (Nat.le_refl y))) h
theorem qj_Is_iff {F : Nat} {P Q : Nat → Prop} (h : ∀ τ, τ < F → (P τ ↔ Q τ)) {n : Nat} (hn : qj_Is F P n) : qj_Is F Q n :=
  ⟨hn.1, fun τ hτ => (hn.2 τ hτ).trans (h τ hτ)⟩
