section
theorem pk_us {f : Nat → Int32} {k : Nat} {x : Int32} : upd f k x k = x := if_pos rfl
theorem pk_un {f : Nat → Int32} {k j : Nat} {x : Int32} (h : j ≠ k) : upd f k x j = f j := if_neg h
theorem pk_sub {a b : Nat} (h : b ≤ a) : nI a - nI b = nI (a - b) := by
  obtain ⟨c, rfl⟩ : ∃ c, a = c + b := ⟨a - b, by omega⟩
  rw [← nI_add, Int32.add_sub_cancel, Nat.add_sub_cancel]
theorem pk_m1 (n : Nat) : nI (n + 1) + (-1) = nI n := by
  rw [← nI_1, Int32.add_assoc, show (1 : Int32) + (-1) = 0 from rfl, Int32.add_zero]
theorem pk_mul (a b : Nat) : nI a * nI b = nI (a * b) := (Int32.ofNat_mul a b).symm
theorem pk_div {a d : Nat} (ha : a < 2 ^ 31) (h0 : 0 < d) (hd : d < 2 ^ 31) : nI a / nI d = nI (a / d) := by
  apply Int32.toInt_inj.mp
  rw [lg_idiv_nonneg (by rw [nI_toInt ha]; omega) (by rw [nI_toInt hd]; omega), nI_toInt ha, nI_toInt hd, nI_toInt (Nat.lt_of_le_of_lt (Nat.div_le_self a d) ha)]
  first | rfl | exact (Int.natCast_ediv _ _).symm
theorem pk_rem {a d : Nat} (ha : a < 2 ^ 31) (h0 : 0 < d) (hd : d < 2 ^ 31) : nI a - nI a / nI d * nI d = nI (a % d) := by
  rw [pk_div ha h0 hd, pk_mul, pk_sub (Nat.div_mul_le_self a d)]
  exact congrArg nI (by have := Nat.div_add_mod' a d; omega)
theorem pk_ix (x : Int32) {n : Nat} (hn : n < 2 ^ 31) : x < 0 ∨ nI n ≤ x ∨ ∃ j : Nat, j < n ∧ x = nI j := by
  by_cases h : x < 0
  · exact Or.inl h
  · obtain ⟨j, hj, rfl⟩ := nI_of h
    by_cases h2 : j < n
    · exact Or.inr (Or.inr ⟨j, h2, rfl⟩)
    · exact Or.inr (Or.inl (nI_le (by omega) hj))
theorem pk_le {x y : Int32} {A B : Prop} (a b : Nat) (f : a ≤ b → A) (g : b < a → B) (hx : x = nI a := by rfl) (hy : y = nI b := by rfl) (ha : a < 2 ^ 31 := by omega) (hb : b < 2 ^ 31 := by omega) : (x ≤ y → A) ∧ (¬ x ≤ y → B) := by
  subst hx hy
  rw [nI_leI ha hb]
  exact ⟨f, fun z => g (by omega)⟩
theorem pk_lt {x y : Int32} {A B : Prop} (a b : Nat) (f : a < b → A) (g : b ≤ a → B) (hx : x = nI a := by rfl) (hy : y = nI b := by rfl) (ha : a < 2 ^ 31 := by omega) (hb : b < 2 ^ 31 := by omega) : (x < y → A) ∧ (¬ x < y → B) := by
  subst hx hy
  rw [nI_ltI ha hb]
  exact ⟨f, fun z => g (by omega)⟩
theorem pk_eq {x y : Int32} {A B : Prop} (a b : Nat) (f : a = b → A) (g : a ≠ b → B) (hx : x = nI a := by rfl) (hy : y = nI b := by rfl) (ha : a < 2 ^ 31 := by omega) (hb : b < 2 ^ 31 := by omega) : (x = y → A) ∧ (¬ x = y → B) := by
  subst hx hy
  rw [nI_eq ha hb]
  exact ⟨f, g⟩
theorem pk_in {x : Int32} (n N : Nat) (h : n < N) (hx : x = nI n := by rfl) (hN : N < 2 ^ 31 := by omega) : vp_in x N := by
  subst hx
  exact vp_in_nI h hN
theorem pk_cl {x : Int32} (n : Nat) (hx : x = nI n := by rfl) (h : n < 2 ^ 31 := by omega) : x.toNatClampNeg = n := by
  subst hx
  exact nI_clamp h
end
section
/-- a timetable in plain numbers: lines, trips, length of a line, stop and time at a place (line * 6 + i),
    a trip's line and start, the footpaths (from * 8 + to; 0: none) -/
abbrev qj_D : Type := Nat × Nat × (Nat → Nat) × (Nat → Nat) × (Nat → Nat) × (Nat → Nat) × (Nat → Nat) × (Nat → Nat)
def qj_L (d : qj_D) : Nat := d.1
def qj_T (d : qj_D) : Nat := d.2.1
def qj_len (d : qj_D) : Nat → Nat := d.2.2.1
def qj_stp (d : qj_D) : Nat → Nat := d.2.2.2.1
def qj_aft (d : qj_D) : Nat → Nat := d.2.2.2.2.1
def qj_tl (d : qj_D) : Nat → Nat := d.2.2.2.2.2.1
def qj_st (d : qj_D) : Nat → Nat := d.2.2.2.2.2.2.1
def qj_wk (d : qj_D) : Nat → Nat := d.2.2.2.2.2.2.2
/-- what every timetable that calls can make keeps to -/
def qj_ok (d : qj_D) : Prop :=
  qj_L d ≤ 5 ∧ qj_T d ≤ 12 ∧ (∀ l, qj_len d l ≤ 6) ∧ (∀ l, l < qj_L d → 1 ≤ qj_len d l) ∧ (∀ j, qj_stp d j < 8) ∧
  (∀ l, l < 5 → ∀ i, i < qj_len d l → qj_aft d (l * 6 + i) ≤ 30 * i) ∧
  (∀ l, l < 5 → ∀ i j, i < j → j < qj_len d l → qj_aft d (l * 6 + i) < qj_aft d (l * 6 + j)) ∧
  (∀ m, qj_tl d m < 5) ∧ (∀ m, m < qj_T d → qj_tl d m < qj_L d) ∧ (∀ m, qj_st d m ≤ 500) ∧ (∀ j, qj_wk d j ≤ 30)
theorem qj_ok_L {d : qj_D} (h : qj_ok d) : qj_L d ≤ 5 := h.1
theorem qj_ok_T {d : qj_D} (h : qj_ok d) : qj_T d ≤ 12 := h.2.1
theorem qj_ok_len {d : qj_D} (h : qj_ok d) (l : Nat) : qj_len d l ≤ 6 := h.2.2.1 l
theorem qj_ok_one {d : qj_D} (h : qj_ok d) {l : Nat} (hl : l < qj_L d) : 1 ≤ qj_len d l := h.2.2.2.1 l hl
theorem qj_ok_stp {d : qj_D} (h : qj_ok d) (j : Nat) : qj_stp d j < 8 := h.2.2.2.2.1 j
theorem qj_ok_aft {d : qj_D} (h : qj_ok d) {l : Nat} (hl : l < 5) {i : Nat} (hi : i < qj_len d l) : qj_aft d (l * 6 + i) ≤ 30 * i := h.2.2.2.2.2.1 l hl i hi
theorem qj_ok_inc {d : qj_D} (h : qj_ok d) {l : Nat} (hl : l < 5) {i j : Nat} (hij : i < j) (hj : j < qj_len d l) : qj_aft d (l * 6 + i) < qj_aft d (l * 6 + j) := h.2.2.2.2.2.2.1 l hl i j hij hj
theorem qj_ok_tl {d : qj_D} (h : qj_ok d) (m : Nat) : qj_tl d m < 5 := h.2.2.2.2.2.2.2.1 m
theorem qj_ok_tlL {d : qj_D} (h : qj_ok d) {m : Nat} (hm : m < qj_T d) : qj_tl d m < qj_L d := h.2.2.2.2.2.2.2.2.1 m hm
theorem qj_ok_st {d : qj_D} (h : qj_ok d) (m : Nat) : qj_st d m ≤ 500 := h.2.2.2.2.2.2.2.2.2.1 m
theorem qj_ok_wk {d : qj_D} (h : qj_ok d) (j : Nat) : qj_wk d j ≤ 30 := h.2.2.2.2.2.2.2.2.2.2 j
/-- behind what o says (off a trip at a stop by a time): there, on foot or not -/
def qj_H (d : qj_D) (o : Nat → Nat → Prop) (s τ : Nat) : Prop :=
  o s τ ∨ ∃ u, u < 8 ∧ 0 < qj_wk d (u * 8 + s) ∧ ∃ σ, o u σ ∧ σ + qj_wk d (u * 8 + s) ≤ τ
/-- a ride with trip m, boarded from what h says -/
def qj_R (d : qj_D) (h : Nat → Nat → Prop) (m s τ : Nat) : Prop :=
  ∃ i j, i < j ∧ j < qj_len d (qj_tl d m) ∧ h (qj_stp d (qj_tl d m * 6 + i)) (qj_st d m + qj_aft d (qj_tl d m * 6 + i)) ∧
    qj_stp d (qj_tl d m * 6 + j) = s ∧ qj_st d m + qj_aft d (qj_tl d m * 6 + j) ≤ τ
/-- off a trip (or at the beginning) at s by τ, after just k rides -/
def qj_O (d : qj_D) (a t : Nat) : Nat → Nat → Nat → Prop
  | 0 => fun s τ => s = a ∧ t ≤ τ
  | k + 1 => fun s τ => ∃ m, m < qj_T d ∧ qj_R d (qj_H d (qj_O d a t k)) m s τ
/-- the same after at most k rides -/
def qj_C (d : qj_D) (a t K s τ : Nat) : Prop := ∃ k, k ≤ K ∧ qj_O d a t k s τ
/-- n is the least time at which Q holds, F if there is none below F -/
def qj_Is (F : Nat) (Q : Nat → Prop) (n : Nat) : Prop := n ≤ F ∧ ∀ τ, τ < F → (n ≤ τ ↔ Q τ)
theorem qj_H_mono {d : qj_D} {o o' : Nat → Nat → Prop} (h : ∀ s τ, o s τ → o' s τ) {s τ : Nat} : qj_H d o s τ → qj_H d o' s τ := by
  rintro (h1 | ⟨u, hu, hw, σ, ho, hs⟩)
  · exact Or.inl (h _ _ h1)
  · exact Or.inr ⟨u, hu, hw, σ, h _ _ ho, hs⟩
theorem qj_R_mono {d : qj_D} {g g' : Nat → Nat → Prop} (h : ∀ s τ, g s τ → g' s τ) {m s τ : Nat} : qj_R d g m s τ → qj_R d g' m s τ := by
  rintro ⟨i, j, hij, hj, hb, hs, ht⟩
  exact ⟨i, j, hij, hj, h _ _ hb, hs, ht⟩
theorem qj_O_up {d : qj_D} {a t k s τ τ' : Nat} (h : qj_O d a t k s τ) (ht : τ ≤ τ') : qj_O d a t k s τ' := by
  cases k with
  | zero => exact ⟨h.1, Nat.le_trans h.2 ht⟩
  | succ k =>
    obtain ⟨m, hm, i, j, hij, hj, hb, hs, hτ⟩ := h
    exact ⟨m, hm, i, j, hij, hj, hb, hs, Nat.le_trans hτ ht⟩
theorem qj_H_up {d : qj_D} {o : Nat → Nat → Prop} (ho : ∀ s τ τ', o s τ → τ ≤ τ' → o s τ') {s τ τ' : Nat} (h : qj_H d o s τ) (ht : τ ≤ τ') : qj_H d o s τ' := by
  rcases h with h1 | ⟨u, hu, hw, σ, h2, hs⟩
  · exact Or.inl (ho _ _ _ h1 ht)
  · exact Or.inr ⟨u, hu, hw, σ, h2, Nat.le_trans hs ht⟩
theorem qj_O_early {d : qj_D} {a t t' : Nat} (ht : t' ≤ t) : ∀ (k s τ : Nat), qj_O d a t k s τ → qj_O d a t' k s τ := by
  intro k
  induction k with
  | zero => exact fun s τ h => ⟨h.1, Nat.le_trans ht h.2⟩
  | succ k ih =>
    rintro s τ ⟨m, hm, hr⟩
    exact ⟨m, hm, qj_R_mono (fun _ _ => qj_H_mono ih) hr⟩
theorem qj_O_lim {d : qj_D} (hd : qj_ok d) {a t : Nat} (ht : t ≤ 1000) {k s τ : Nat} (h : qj_O d a t k s τ) : qj_O d a t k s 1000 := by
  cases k with
  | zero => exact ⟨h.1, ht⟩
  | succ k =>
    obtain ⟨m, hm, i, j, hij, hj, hb, hs, hτ⟩ := h
    have h1 := qj_ok_aft hd (qj_ok_tl hd m) hj
    have h2 := qj_ok_len hd (qj_tl d m)
    have h3 := qj_ok_st hd m
    exact ⟨m, hm, i, j, hij, hj, hb, hs, by omega⟩
theorem qj_H_lim {d : qj_D} (hd : qj_ok d) {a t : Nat} (ht : t ≤ 1000) {k s τ : Nat} (h : qj_H d (qj_O d a t k) s τ) : qj_H d (qj_O d a t k) s 2000 := by
  rcases h with h1 | ⟨u, hu, hw, σ, h2, hs⟩
  · exact Or.inl (qj_O_up (qj_O_lim hd ht h1) (by omega))
  · have := qj_ok_wk hd (u * 8 + s)
    exact Or.inr ⟨u, hu, hw, 1000, qj_O_lim hd ht h2, by omega⟩
theorem qj_HC {d : qj_D} {a t K s τ : Nat} : qj_H d (qj_C d a t K) s τ ↔ ∃ k, k ≤ K ∧ qj_H d (qj_O d a t k) s τ := by
  constructor
  · rintro (⟨k, hk, h⟩ | ⟨u, hu, hw, σ, ⟨k, hk, h⟩, hs⟩)
    · exact ⟨k, hk, Or.inl h⟩
    · exact ⟨k, hk, Or.inr ⟨u, hu, hw, σ, h, hs⟩⟩
  · rintro ⟨k, hk, h⟩
    exact qj_H_mono (fun s τ ho => ⟨k, hk, ho⟩) h
theorem qj_C_step {d : qj_D} {a t K s τ : Nat} : qj_C d a t (K + 1) s τ ↔ qj_C d a t K s τ ∨ ∃ m, m < qj_T d ∧ qj_R d (qj_H d (qj_C d a t K)) m s τ := by
  constructor
  · rintro ⟨k, hk, h⟩
    by_cases hkK : k ≤ K
    · exact Or.inl ⟨k, hkK, h⟩
    · have e : k = K + 1 := by omega
      subst e
      obtain ⟨m, hm, hr⟩ := h
      exact Or.inr ⟨m, hm, qj_R_mono (fun _ _ => qj_H_mono (fun s τ ho => ⟨K, Nat.le_refl K, ho⟩)) hr⟩
  · rintro (⟨k, hk, h⟩ | ⟨m, hm, i, j, hij, hj, hb, hs, hτ⟩)
    · exact ⟨k, by omega, h⟩
    · obtain ⟨k, hk, hb⟩ := qj_HC.mp hb
      exact ⟨k + 1, by omega, m, hm, i, j, hij, hj, hb, hs, hτ⟩
theorem qj_HC_up {d : qj_D} {a t K s τ τ' : Nat} (h : qj_H d (qj_C d a t K) s τ) (ht : τ ≤ τ') : qj_H d (qj_C d a t K) s τ' :=
  qj_H_up (fun _ _ _ ⟨k, hk, ho⟩ hh => ⟨k, hk, qj_O_up ho hh⟩) h ht
theorem qj_HC_more {d : qj_D} {a t K K' s τ : Nat} (hK : K ≤ K') (h : qj_H d (qj_C d a t K) s τ) : qj_H d (qj_C d a t K') s τ :=
  qj_H_mono (fun _ _ ⟨k, hk, ho⟩ => ⟨k, Nat.le_trans hk hK, ho⟩) h
theorem qj_HC_lim {d : qj_D} (hd : qj_ok d) {a t K s τ : Nat} (ht : t ≤ 1000) (h : qj_H d (qj_C d a t K) s τ) : qj_H d (qj_C d a t K) s 2000 := by
  obtain ⟨k, hk, h⟩ := qj_HC.mp h
  exact qj_HC.mpr ⟨k, hk, qj_H_lim hd ht h⟩
theorem qj_HC_early {d : qj_D} {a t t' K s τ : Nat} (ht : t' ≤ t) (h : qj_H d (qj_C d a t K) s τ) : qj_H d (qj_C d a t' K) s τ :=
  qj_H_mono (fun _ _ ⟨k, hk, ho⟩ => ⟨k, hk, qj_O_early ht _ _ _ ho⟩) h
/-- how many of the first n keep P -/
noncomputable def qj_cnt (P : Nat → Prop) : Nat → Nat
  | 0 => 0
  | n + 1 => qj_cnt P n + @ite Nat (P n) (Classical.propDecidable (P n)) 1 0
theorem qj_cnt_le (P : Nat → Prop) : ∀ n, qj_cnt P n ≤ n := by
  intro n
  induction n with
  | zero => exact Nat.le_refl 0
  | succ n ih =>
    by_cases h : P n
    · simp only [qj_cnt, if_pos h]; omega
    · simp only [qj_cnt, if_neg h]; omega
theorem qj_cnt_mono {P Q : Nat → Prop} (h : ∀ i, P i → Q i) : ∀ n, qj_cnt P n ≤ qj_cnt Q n := by
  intro n
  induction n with
  | zero => exact Nat.le_refl 0
  | succ n ih =>
    by_cases hp : P n
    · simp only [qj_cnt, if_pos hp, if_pos (h n hp)]; omega
    · by_cases hq : Q n
      · simp only [qj_cnt, if_neg hp, if_pos hq]; omega
      · simp only [qj_cnt, if_neg hp, if_neg hq]; omega
theorem qj_cnt_lt {P Q : Nat → Prop} (h : ∀ i, P i → Q i) {u : Nat} (hp : ¬ P u) (hq : Q u) : ∀ n, u < n → qj_cnt P n < qj_cnt Q n := by
  intro n
  induction n with
  | zero => intro hu; omega
  | succ n ih =>
    intro hu
    by_cases e : u = n
    · subst e
      have := qj_cnt_mono h u
      simp only [qj_cnt, if_neg hp, if_pos hq]; omega
    · have := ih (by omega)
      by_cases hp' : P n
      · simp only [qj_cnt, if_pos hp', if_pos (h n hp')]; omega
      · by_cases hq' : Q n
        · simp only [qj_cnt, if_neg hp', if_pos hq']; omega
        · simp only [qj_cnt, if_neg hp', if_neg hq']; omega
theorem qj_least (P : Nat → Prop) : ∀ n, P n → ∃ k, k ≤ n ∧ P k ∧ ∀ j, j < k → ¬ P j := by
  intro n
  induction n using Nat.strongRecOn with
  | ind n ih =>
    intro h
    by_cases hx : ∃ j, j < n ∧ P j
    · obtain ⟨j, hj, hp⟩ := hx
      obtain ⟨k, hk, h1, h2⟩ := ih j hj hp
      exact ⟨k, by omega, h1, h2⟩
    · exact ⟨n, Nat.le_refl n, h, fun j hj hp => hx ⟨j, hj, hp⟩⟩
/-- stop u is reached off a trip before v -/
def qj_bef (d : qj_D) (a t v u : Nat) : Prop := ∃ k σ, σ < v ∧ qj_O d a t k u σ
/-- who is at s by v needs no more rides than there are stops that are reached before v -/
theorem qj_few {d : qj_D} (hd : qj_ok d) {a t : Nat} (ha : a < 8) : ∀ (v k s : Nat), qj_O d a t k s v → ∃ k', k' ≤ qj_cnt (qj_bef d a t v) 8 ∧ qj_O d a t k' s v := by
  intro v
  induction v using Nat.strongRecOn with
  | ind v ih =>
    intro k s h
    cases k with
    | zero => exact ⟨0, Nat.zero_le _, h⟩
    | succ k =>
      obtain ⟨m, hm, i, j, hij, hj, hb, hs, hτ⟩ := h
      have hinc := qj_ok_inc hd (qj_ok_tl hd m) hij hj
      have key : ∃ u σ, u < 8 ∧ σ < v ∧ qj_O d a t k u σ ∧ ∀ k', qj_O d a t k' u σ → qj_H d (qj_O d a t k') (qj_stp d (qj_tl d m * 6 + i)) (qj_st d m + qj_aft d (qj_tl d m * 6 + i)) := by
        rcases hb with h1 | ⟨u, hu, hw, σ, h2, hs2⟩
        · exact ⟨_, _, qj_ok_stp hd _, by omega, h1, fun k' h' => Or.inl h'⟩
        · exact ⟨u, σ, hu, by omega, h2, fun k' h' => Or.inr ⟨u, hu, hw, σ, h', hs2⟩⟩
      obtain ⟨u, σ, hu, hσ, hO, hH⟩ := key
      obtain ⟨σ0, hσ0, ⟨k0, hk0⟩, hmin⟩ := qj_least (fun σ => ∃ k, qj_O d a t k u σ) σ ⟨k, hO⟩
      obtain ⟨k', hk', hO'⟩ := ih σ0 (by omega) k0 u hk0
      have hlt : qj_cnt (qj_bef d a t σ0) 8 < qj_cnt (qj_bef d a t v) 8 := by
        refine qj_cnt_lt ?_ (u := u) ?_ ?_ 8 hu
        · rintro w ⟨k1, σ1, h1, h2⟩
          exact ⟨k1, σ1, by omega, h2⟩
        · rintro ⟨k1, σ1, h1, h2⟩
          exact hmin σ1 h1 ⟨k1, h2⟩
        · exact ⟨k0, σ0, by omega, hk0⟩
      exact ⟨k' + 1, by omega, m, hm, i, j, hij, hj, hH k' (qj_O_up hO' hσ0), hs, hτ⟩
theorem qj_eight {d : qj_D} (hd : qj_ok d) {a t : Nat} (ha : a < 8) {K s τ : Nat} (h : qj_H d (qj_C d a t K) s τ) : qj_H d (qj_C d a t 8) s τ := by
  have hh : ∀ s τ, qj_C d a t K s τ → qj_C d a t 8 s τ := by
    rintro s τ ⟨k, hk, ho⟩
    obtain ⟨k', hk', ho'⟩ := qj_few hd ha τ k s ho
    have := qj_cnt_le (qj_bef d a t τ) 8
    exact ⟨k', by omega, ho'⟩
  exact qj_H_mono hh h
/-- the same least time on both sides: equal, or far on both -/
theorem qj_agree {Q : Nat → Prop} (hl : ∀ τ, Q τ → Q 2000) {x y : Nat} (hx : qj_Is 1000000 Q x) (hy : qj_Is 100000 Q y) : (x = 1000000 ∧ y = 100000) ∨ (x = y ∧ x ≤ 2000) := by
  by_cases h : Q 2000
  · have h1 : x ≤ 2000 := (hx.2 2000 (by omega)).mpr h
    have h2 : y ≤ 2000 := (hy.2 2000 (by omega)).mpr h
    have h3 : Q x := (hx.2 x (by omega)).mp (Nat.le_refl x)
    have h4 : Q y := (hy.2 y (by omega)).mp (Nat.le_refl y)
    have h5 : x ≤ y := (hx.2 y (by omega)).mpr h4
    have h6 : y ≤ x := (hy.2 x (by omega)).mpr h3
    exact Or.inr ⟨by omega, h1⟩
  · refine Or.inl ⟨?_, ?_⟩
    · have h1 := hx.1
      by_cases e : x = 1000000
      · exact e
      · exact absurd (hl x ((hx.2 x (by omega)).mp (Nat.le_refl x))) h
    · have h1 := hy.1
      by_cases e : y = 100000
      · exact e
      · exact absurd (hl y ((hy.2 y (by omega)).mp (Nat.le_refl y))) h
theorem qj_Is_iff {F : Nat} {P Q : Nat → Prop} (h : ∀ τ, τ < F → (P τ ↔ Q τ)) {n : Nat} (hn : qj_Is F P n) : qj_Is F Q n :=
  ⟨hn.1, fun τ hτ => (hn.2 τ hτ).trans (h τ hτ)⟩
end
section
def qa_stp (d : qj_D) : Nat → Int32 := fun j => nI (qj_stp d j)
def qa_aft (d : qj_D) : Nat → Int32 := fun j => nI (qj_aft d j)
def qa_len (d : qj_D) : Nat → Int32 := fun j => nI (qj_len d j)
def qa_tl (d : qj_D) : Nat → Int32 := fun j => nI (qj_tl d j)
def qa_st (d : qj_D) : Nat → Int32 := fun j => nI (qj_st d j)
def qa_wk (d : qj_D) : Nat → Int32 := fun j => nI (qj_wk d j)
/-- the component's state over the timetable d -/
def qx_S (d : qj_D) (lt off rch : Nat → Int32) : SX := (nI (qj_L d), nI (qj_T d), qa_stp d, qa_aft d, qa_len d, lt, qa_tl d, qa_st d, qa_wk d, off, rch)
/-- the reference's state over the timetable d -/
def qy_S (d : qj_D) (off th : Nat → Int32) : SY := (nI (qj_L d), nI (qj_T d), qa_len d, qa_stp d, qa_aft d, qa_tl d, qa_st d, qa_wk d, off, th)
theorem qj_ix8 (i s : Nat) : nI i * 8 + nI s = nI (i * 8 + s) := by
  rw [show (8 : Int32) = nI 8 from rfl, pk_mul, nI_add]
theorem qj_ix6 (i s : Nat) : nI i * 6 + nI s = nI (i * 6 + s) := by
  rw [show (6 : Int32) = nI 6 from rfl, pk_mul, nI_add]
theorem qj_x6 (i : Nat) : nI i * 6 = nI (i * 6) := by
  rw [show (6 : Int32) = nI 6 from rfl, pk_mul]
/-- what stop s is reached at, walked from off times o over the first i stops -/
def qj_wf (d : qj_D) (o : Nat → Nat) (s : Nat) : Nat → Nat
  | 0 => o s
  | i + 1 => if 0 < qj_wk d (i * 8 + s) ∧ o i + qj_wk d (i * 8 + s) < qj_wf d o s i then o i + qj_wk d (i * 8 + s) else qj_wf d o s i
theorem qj_wf_le (d : qj_D) (o : Nat → Nat) (s : Nat) : ∀ i, qj_wf d o s i ≤ o s := by
  intro i
  induction i with
  | zero => exact Nat.le_refl _
  | succ i ih =>
    by_cases h : 0 < qj_wk d (i * 8 + s) ∧ o i + qj_wk d (i * 8 + s) < qj_wf d o s i
    · rw [qj_wf, if_pos h]; omega
    · rw [qj_wf, if_neg h]; exact ih
theorem qj_wf_iff (d : qj_D) (o : Nat → Nat) (s τ : Nat) : ∀ i, qj_wf d o s i ≤ τ ↔ (o s ≤ τ ∨ ∃ u, u < i ∧ 0 < qj_wk d (u * 8 + s) ∧ o u + qj_wk d (u * 8 + s) ≤ τ) := by
  intro i
  induction i with
  | zero =>
    constructor
    · exact fun h => Or.inl h
    · rintro (h | ⟨u, hu, _⟩)
      · exact h
      · omega
  | succ i ih =>
    by_cases h : 0 < qj_wk d (i * 8 + s) ∧ o i + qj_wk d (i * 8 + s) < qj_wf d o s i
    · rw [qj_wf, if_pos h]
      constructor
      · exact fun hh => Or.inr ⟨i, by omega, h.1, hh⟩
      · rintro (h1 | ⟨u, hu, h2, h3⟩)
        · have := ih.mpr (Or.inl h1); omega
        · by_cases e : u = i
          · subst e; exact h3
          · have := ih.mpr (Or.inr ⟨u, by omega, h2, h3⟩); omega
    · rw [qj_wf, if_neg h]
      constructor
      · intro hh
        rcases ih.mp hh with h1 | ⟨u, hu, h2, h3⟩
        · exact Or.inl h1
        · exact Or.inr ⟨u, by omega, h2, h3⟩
      · rintro (h1 | ⟨u, hu, h2, h3⟩)
        · exact ih.mpr (Or.inl h1)
        · by_cases e : u = i
          · subst e; omega
          · exact ih.mpr (Or.inr ⟨u, by omega, h2, h3⟩)
theorem qj_wf_is {d : qj_D} {F : Nat} {c : Nat → Nat → Prop} {o : Nat → Nat} (h : ∀ s, s < 8 → qj_Is F (c s) (o s)) {s : Nat} (hs : s < 8) : qj_Is F (qj_H d c s) (qj_wf d o s 8) := by
  refine ⟨Nat.le_trans (qj_wf_le d o s 8) (h s hs).1, fun τ hτ => ?_⟩
  rw [qj_wf_iff]
  constructor
  · rintro (h1 | ⟨u, hu, hw, h2⟩)
    · exact Or.inl (((h s hs).2 τ hτ).mp h1)
    · exact Or.inr ⟨u, hu, hw, o u, ((h u hu).2 (o u) (by omega)).mp (Nat.le_refl _), h2⟩
  · rintro (h1 | ⟨u, hu, hw, σ, h2, h3⟩)
    · exact Or.inl (((h s hs).2 τ hτ).mpr h1)
    · have := ((h u hu).2 σ (by omega)).mpr h2
      exact Or.inr ⟨u, hu, hw, by omega⟩
theorem qx_walk17 (post : SX → Prop) (J2 : Int32 → (Nat → Int32) → (Nat → Int32) → (Nat → Int32) → (Nat → Int32) → (Nat → Int32) → (Nat → Int32) → (Nat → Int32) → (Nat → Int32) → (Nat → Int32) → Prop) {d : qj_D} (hd : qj_ok d) (lt off rch : Nat → Int32) {o : Nat → Nat} (ho : ∀ s, s < 8 → off s = nI (o s) ∧ o s ≤ 1000000) {s : Nat} (hs : s < 8)
    (h : J2 (nI (s + 1)) (qa_stp d) (qa_aft d) (qa_len d) lt (qa_tl d) (qa_st d) (qa_wk d) off (upd rch s (nI (qj_wf d o s 8)))) :
    ∀ e i, i + e = 8 → wX_walk_17 post J2 (nI s) (nI (qj_L d)) (nI (qj_T d)) (qa_stp d) (qa_aft d) (qa_len d) lt (qa_tl d) (qa_st d) (qa_wk d) off rch (e + 1) (nI (qj_wf d o s i)) (nI i) := by
  intro e
  induction e with
  | zero =>
    intro i hi
    have ei : i = 8 := by omega
    subst ei
    exact br_t (nI_le (b := 8) (a := 8) (by omega) (by decide)) ⟨pk_in s 8 hs, nm_r (by rw [nI_clamp (by omega)]) (nm_r (nI_1 s) h)⟩
  | succ e ih =>
    intro i hi
    have ih1 := ih (i + 1) (by omega)
    have hw := qj_ok_wk hd (i * 8 + s)
    have hoi := (ho i (by omega)).2
    have hwl := qj_wf_le d o s i
    have hos := (ho s hs).2
    have eo : off (nI i).toNatClampNeg + nI (qj_wk d (i * 8 + s)) = nI (o i + qj_wk d (i * 8 + s)) := by
      rw [nI_clamp (by omega), (ho i (by omega)).1, nI_add]
    refine br_f (nI_ge (b := 8) (by omega) (by decide)) ⟨pk_in (i * 8 + s) 64 (by omega) (qj_ix8 i s), nm_r (e' := nI (qj_wk d (i * 8 + s))) (by rw [qj_ix8, nI_clamp (by omega)]; exact rfl) ?_⟩
    refine pk_le (qj_wk d (i * 8 + s)) 0 (fun h0 => nm_r (nI_1 i) ?_) (fun h0 => ⟨pk_in i 8 (by omega), ?_⟩)
    · rw [qj_wf, if_neg (by omega)] at ih1
      exact ih1
    · refine pk_le (qj_wf d o s i) (o i + qj_wk d (i * 8 + s)) (fun h1 => nm_r (nI_1 i) ?_) (fun h1 => ⟨pk_in i 8 (by omega), nm_r eo (nm_r (nI_1 i) ?_)⟩) rfl eo
      · rw [qj_wf, if_neg (by omega)] at ih1
        exact ih1
      · rw [qj_wf, if_pos (by omega)] at ih1
        exact ih1
theorem qx_walk2 (post : SX → Prop) {d : qj_D} (hd : qj_ok d) (lt off : Nat → Int32) {o : Nat → Nat} (ho : ∀ s, s < 8 → off s = nI (o s) ∧ o s ≤ 1000000)
    (h : ∀ rch', (∀ j, j < 8 → rch' j = nI (qj_wf d o j 8)) → post (qx_S d lt off rch')) :
    ∀ e s rch, s + e = 8 → (∀ j, j < s → rch j = nI (qj_wf d o j 8)) → wX_walk_2 post (nI (qj_L d)) (nI (qj_T d)) (e + 1) (nI s) (qa_stp d) (qa_aft d) (qa_len d) lt (qa_tl d) (qa_st d) (qa_wk d) off rch := by
  intro e
  induction e with
  | zero =>
    intro s rch hs hr
    have es : s = 8 := by omega
    subst es
    exact br_t (nI_le (b := 8) (a := 8) (by omega) (by decide)) (h rch hr)
  | succ e ih =>
    intro s rch hs hr
    refine br_f (nI_ge (b := 8) (by omega) (by decide)) ⟨pk_in s 8 (by omega), nm_r (e' := nI (qj_wf d o s 0)) (by rw [nI_clamp (by omega), (ho s (by omega)).1]; exact rfl) ⟨9, ?_⟩⟩
    refine qx_walk17 post _ hd lt off rch ho (by omega) ?_ 8 0 (by omega)
    refine ih (s + 1) _ (by omega) ?_
    intro j hj
    by_cases e : j = s
    · subst e; exact pk_us
    · rw [pk_un e]; exact hr j (by omega)
theorem qx_walk (post : SX → Prop) {d : qj_D} (hd : qj_ok d) (lt off rch : Nat → Int32) {o : Nat → Nat} (ho : ∀ s, s < 8 → off s = nI (o s) ∧ o s ≤ 1000000)
    (h : ∀ rch', (∀ j, j < 8 → rch' j = nI (qj_wf d o j 8)) → post (qx_S d lt off rch')) : wpX_walk post (qx_S d lt off rch) :=
  ⟨9, qx_walk2 post hd lt off ho h 8 0 rch (by omega) (fun j hj => absurd hj (by omega))⟩
/-- the component's scratch after K rides from a at t -/
def qx_At (d : qj_D) (a t K : Nat) (off rch : Nat → Int32) : Prop := ∃ o r : Nat → Nat,
  (∀ s, s < 8 → off s = nI (o s) ∧ qj_Is 1000000 (qj_C d a t K s) (o s)) ∧ (∀ s, s < 8 → rch s = nI (r s) ∧ qj_Is 1000000 (qj_H d (qj_C d a t K) s) (r s))
theorem qx_walkAt (post : SX → Prop) {d : qj_D} (hd : qj_ok d) {a t K : Nat} (lt off rch : Nat → Int32) {o : Nat → Nat} (ho : ∀ s, s < 8 → off s = nI (o s) ∧ qj_Is 1000000 (qj_C d a t K s) (o s))
    (h : ∀ rch', qx_At d a t K off rch' → post (qx_S d lt off rch')) : wpX_walk post (qx_S d lt off rch) :=
  qx_walk post hd lt off rch (fun s hs => ⟨(ho s hs).1, (ho s hs).2.1⟩) (fun rch' hr => h rch' ⟨o, fun s => qj_wf d o s 8, ho, fun s hs => ⟨hr s hs, qj_wf_is (fun s hs => (ho s hs).2) hs⟩⟩)
theorem qx_begin2 (post : SX → Prop) {d : qj_D} (hd : qj_ok d) {a t : Nat} (ha : a < 8) (ht : t ≤ 1000) (lt rch : Nat → Int32)
    (h : ∀ off' rch', qx_At d a t 0 off' rch' → post (qx_S d lt off' rch')) :
    ∀ e i off, i + e = 8 → (∀ j, j < i → off j = nI 1000000) → wX_beginAt_2 post (nI a) (nI t) (nI (qj_L d)) (nI (qj_T d)) (e + 1) (nI i) (qa_stp d) (qa_aft d) (qa_len d) lt (qa_tl d) (qa_st d) (qa_wk d) off rch := by
  intro e
  induction e with
  | zero =>
    intro i off hi hoff
    have ei : i = 8 := by omega
    subst ei
    refine br_t (nI_le (b := 8) (a := 8) (by omega) (by decide)) ⟨pk_in a 8 ha, nm_r (e' := upd off a (nI t)) (by rw [nI_clamp (by omega)]) ?_⟩
    refine qx_walkAt (a := a) (t := t) (K := 0) (o := fun s => if s = a then t else 1000000) _ hd lt (upd off a (nI t)) rch ?_ (fun rch' hr => h _ rch' hr)
    intro s hs
    by_cases e : s = a
    · subst e
      refine ⟨?_, ?_⟩
      · rw [pk_us, if_pos rfl]
      · rw [if_pos rfl]
        refine ⟨by omega, fun τ hτ => ⟨fun hh => ⟨0, Nat.le_refl 0, rfl, hh⟩, ?_⟩⟩
        rintro ⟨k, hk, hO⟩
        have ek : k = 0 := by omega
        subst ek
        exact hO.2
    · refine ⟨?_, ?_⟩
      · rw [pk_un e, if_neg e]; exact hoff s hs
      · rw [if_neg e]
        refine ⟨Nat.le_refl _, fun τ hτ => ⟨fun hh => by omega, ?_⟩⟩
        rintro ⟨k, hk, hO⟩
        have ek : k = 0 := by omega
        subst ek
        exact absurd hO.1 e
  | succ e ih =>
    intro i off hi hoff
    refine br_f (nI_ge (b := 8) (by omega) (by decide)) ⟨pk_in i 8 (by omega), nm_r (e' := upd off i (nI 1000000)) (by rw [nI_clamp (by omega)]; exact rfl) (nm_r (nI_1 i) ?_)⟩
    refine ih (i + 1) _ (by omega) ?_
    intro j hj
    by_cases e : j = i
    · subst e; exact pk_us
    · rw [pk_un e]; exact hoff j (by omega)
theorem qx_beginAt (post : SX → Prop) {d : qj_D} (hd : qj_ok d) {a t : Nat} (ha : a < 8) (ht : t ≤ 1000) (lt off rch : Nat → Int32)
    (h : ∀ off' rch', qx_At d a t 0 off' rch' → post (qx_S d lt off' rch')) : wpX_beginAt post (qx_S d lt off rch) (nI a) (nI t) :=
  ⟨9, qx_begin2 post hd ha ht lt rch h 8 0 off (by omega) (fun j hj => absurd hj (by omega))⟩
end
section
/-- a ride with trip m that ends at one of its first i places, boarded by the times r -/
def qj_P (d : qj_D) (r : Nat → Nat) (m i s τ : Nat) : Prop :=
  ∃ i' j, i' < j ∧ j < i ∧ r (qj_stp d (qj_tl d m * 6 + i')) ≤ qj_st d m + qj_aft d (qj_tl d m * 6 + i') ∧
    qj_stp d (qj_tl d m * 6 + j) = s ∧ qj_st d m + qj_aft d (qj_tl d m * 6 + j) ≤ τ
/-- trip m can be boarded at one of its first i places -/
def qj_B (d : qj_D) (r : Nat → Nat) (m i : Nat) : Prop :=
  ∃ i', i' < i ∧ r (qj_stp d (qj_tl d m * 6 + i')) ≤ qj_st d m + qj_aft d (qj_tl d m * 6 + i')
theorem qj_P_0 {d : qj_D} {r : Nat → Nat} {m s τ : Nat} : ¬ qj_P d r m 0 s τ := by
  rintro ⟨i', j, h1, h2, _⟩
  omega
theorem qj_P_s {d : qj_D} {r : Nat → Nat} {m i s τ : Nat} : qj_P d r m (i + 1) s τ ↔ (qj_P d r m i s τ ∨ (qj_B d r m i ∧ qj_stp d (qj_tl d m * 6 + i) = s ∧ qj_st d m + qj_aft d (qj_tl d m * 6 + i) ≤ τ)) := by
  constructor
  · rintro ⟨i', j, h1, h2, h3, h4, h5⟩
    by_cases e : j = i
    · subst e
      exact Or.inr ⟨⟨i', h1, h3⟩, h4, h5⟩
    · exact Or.inl ⟨i', j, h1, by omega, h3, h4, h5⟩
  · rintro (⟨i', j, h1, h2, h3, h4, h5⟩ | ⟨⟨i', h1, h3⟩, h4, h5⟩)
    · exact ⟨i', j, h1, by omega, h3, h4, h5⟩
    · exact ⟨i', i, h1, by omega, h3, h4, h5⟩
theorem qj_B_s {d : qj_D} {r : Nat → Nat} {m i : Nat} : qj_B d r m (i + 1) ↔ (qj_B d r m i ∨ r (qj_stp d (qj_tl d m * 6 + i)) ≤ qj_st d m + qj_aft d (qj_tl d m * 6 + i)) := by
  constructor
  · rintro ⟨i', h1, h2⟩
    by_cases e : i' = i
    · subst e; exact Or.inr h2
    · exact Or.inl ⟨i', by omega, h2⟩
  · rintro (⟨i', h1, h2⟩ | h2)
    · exact ⟨i', by omega, h2⟩
    · exact ⟨i, by omega, h2⟩
theorem qj_tm_le {d : qj_D} (hd : qj_ok d) {m i : Nat} (hi : i < qj_len d (qj_tl d m)) : qj_st d m + qj_aft d (qj_tl d m * 6 + i) ≤ 650 := by
  have h1 := qj_ok_aft hd (qj_ok_tl hd m) hi
  have h2 := qj_ok_len hd (qj_tl d m)
  have h3 := qj_ok_st hd m
  omega
theorem qj_P_R {d : qj_D} (hd : qj_ok d) {F : Nat} {h : Nat → Nat → Prop} {r : Nat → Nat} (hF : 1000 ≤ F) (hr : ∀ s, s < 8 → qj_Is F (h s) (r s)) {m s τ : Nat} : qj_P d r m (qj_len d (qj_tl d m)) s τ ↔ qj_R d h m s τ := by
  constructor
  · rintro ⟨i', j, h1, h2, h3, h4, h5⟩
    have ht := qj_tm_le hd (m := m) (i := i') (by omega)
    exact ⟨i', j, h1, h2, ((hr _ (qj_ok_stp hd _)).2 _ (by omega)).mp h3, h4, h5⟩
  · rintro ⟨i', j, h1, h2, h3, h4, h5⟩
    have ht := qj_tm_le hd (m := m) (i := i') (by omega)
    exact ⟨i', j, h1, h2, ((hr _ (qj_ok_stp hd _)).2 _ (by omega)).mpr h3, h4, h5⟩
theorem qx_board28 (post : SX → Prop) {d : qj_D} (hd : qj_ok d) (lt rch : Nat → Int32) {m : Nat} (hm : m < 12) {o0 r : Nat → Nat} (hr : ∀ s, s < 8 → rch s = nI (r s) ∧ r s ≤ 1000000)
    (h : ∀ (off' : Nat → Int32) (o' : Nat → Nat), (∀ s, s < 8 → off' s = nI (o' s) ∧ o' s ≤ 1000000) → (∀ s, s < 8 → ∀ τ, o' s ≤ τ ↔ (o0 s ≤ τ ∨ qj_P d r m (qj_len d (qj_tl d m)) s τ)) → post (qx_S d lt off' rch)) :
    ∀ (e i : Nat) (off : Nat → Int32) (o : Nat → Nat) (ab : Int32), i + e = qj_len d (qj_tl d m) → (∀ s, s < 8 → off s = nI (o s) ∧ o s ≤ 1000000) → (∀ s, s < 8 → ∀ τ, o s ≤ τ ↔ (o0 s ≤ τ ∨ qj_P d r m i s τ)) → (ab = 0 ↔ ¬ qj_B d r m i) →
      wX_board_28 post (nI m) (nI (qj_tl d m * 6)) (nI (qj_len d (qj_tl d m))) (nI (qj_L d)) (nI (qj_T d)) (e + 1) ab (nI i) (qa_stp d) (qa_aft d) (qa_len d) lt (qa_tl d) (qa_st d) (qa_wk d) off rch := by
  have hlen := qj_ok_len hd (qj_tl d m)
  have htl := qj_ok_tl hd m
  intro e
  induction e with
  | zero =>
    intro i off o ab hi ho hinv hab
    have ei : i = qj_len d (qj_tl d m) := by omega
    subst ei
    exact br_t (nI_le (by omega) (by omega)) (h off o ho hinv)
  | succ e ih =>
    intro i off o ab hi ho hinv hab
    have hS := qj_ok_stp hd (qj_tl d m * 6 + i)
    have hT := qj_tm_le hd (m := m) (i := i) (by omega)
    have eix : nI (qj_tl d m * 6) + nI i = nI (qj_tl d m * 6 + i) := nI_add _ _
    have ein : vp_in (nI (qj_tl d m * 6) + nI i) 30 := pk_in (qj_tl d m * 6 + i) 30 (by omega) eix
    have eS : qa_stp d (nI (qj_tl d m * 6) + nI i).toNatClampNeg = nI (qj_stp d (qj_tl d m * 6 + i)) := by
      rw [eix, nI_clamp (by omega)]; exact rfl
    have eT : qa_st d (nI m).toNatClampNeg + qa_aft d (nI (qj_tl d m * 6) + nI i).toNatClampNeg = nI (qj_st d m + qj_aft d (qj_tl d m * 6 + i)) := by
      rw [eix, nI_clamp (by omega), nI_clamp (by omega)]; exact nI_add _ _
    have eR : rch (nI (qj_stp d (qj_tl d m * 6 + i))).toNatClampNeg = nI (r (qj_stp d (qj_tl d m * 6 + i))) := by
      rw [nI_clamp (by omega), (hr _ hS).1]
    have eO : off (nI (qj_stp d (qj_tl d m * 6 + i))).toNatClampNeg = nI (o (qj_stp d (qj_tl d m * 6 + i))) := by
      rw [nI_clamp (by omega), (ho _ hS).1]
    have hrS := (hr _ hS).2
    have hoS := (ho _ hS).2
    have key : ∀ (off' : Nat → Int32) (o' : Nat → Nat), (∀ s, s < 8 → off' s = nI (o' s) ∧ o' s ≤ 1000000) → (∀ s, s < 8 → ∀ τ, o' s ≤ τ ↔ (o0 s ≤ τ ∨ qj_P d r m (i + 1) s τ)) →
        wX_board_89 post (wX_board_28 post (nI m) (nI (qj_tl d m * 6)) (nI (qj_len d (qj_tl d m))) (nI (qj_L d)) (nI (qj_T d)) (e + 1)) (nI m) (nI (qj_tl d m * 6)) (nI (qj_len d (qj_tl d m))) ab (nI i) (nI (qj_stp d (qj_tl d m * 6 + i))) (nI (qj_st d m + qj_aft d (qj_tl d m * 6 + i))) (nI (qj_L d)) (nI (qj_T d)) (qa_stp d) (qa_aft d) (qa_len d) lt (qa_tl d) (qa_st d) (qa_wk d) off' rch := by
      intro off' o' ho' hinv'
      refine ⟨pk_in (qj_stp d (qj_tl d m * 6 + i)) 8 hS, pk_lt (qj_st d m + qj_aft d (qj_tl d m * 6 + i)) (r (qj_stp d (qj_tl d m * 6 + i))) (fun hlt => nm_r (nI_1 i) (ih (i + 1) off' o' ab (by omega) ho' hinv' ?_)) (fun hge => nm_r (nI_1 i) (ih (i + 1) off' o' 1 (by omega) ho' hinv' ?_)) rfl eR⟩
      · rw [hab, qj_B_s]
        exact ⟨fun hn hh => hh.elim hn (fun h2 => by omega), fun hn hb => hn (Or.inl hb)⟩
      · exact ⟨fun hh => absurd hh (by decide), fun hn => absurd (qj_B_s.mpr (Or.inr hge)) hn⟩
    refine br_f (nI_ge (by omega) (by omega)) ⟨ein, nm_r eS ⟨pk_in m 12 hm, ein, nm_r eT ?_⟩⟩
    by_cases hz : ab = 0
    · refine br_t hz (key off o ho ?_)
      intro s hs τ
      rw [hinv s hs τ, qj_P_s]
      exact ⟨fun hh => hh.elim Or.inl (fun h2 => Or.inr (Or.inl h2)), fun hh => hh.elim Or.inl (fun h2 => h2.elim Or.inr (fun h3 => absurd h3.1 (hab.mp hz)))⟩
    · have hB : qj_B d r m i := Classical.byContradiction (fun hn => hz (hab.mpr hn))
      refine br_f hz ⟨pk_in (qj_stp d (qj_tl d m * 6 + i)) 8 hS, pk_le (o (qj_stp d (qj_tl d m * 6 + i))) (qj_st d m + qj_aft d (qj_tl d m * 6 + i)) (fun hle => key off o ho ?_) (fun hgt => ⟨pk_in (qj_stp d (qj_tl d m * 6 + i)) 8 hS, nm_r (e' := upd off (qj_stp d (qj_tl d m * 6 + i)) (nI (qj_st d m + qj_aft d (qj_tl d m * 6 + i)))) (by rw [nI_clamp (by omega)]) (key _ (fun s => if s = qj_stp d (qj_tl d m * 6 + i) then qj_st d m + qj_aft d (qj_tl d m * 6 + i) else o s) ?_ ?_)⟩) eO rfl⟩
      · intro s hs τ
        rw [qj_P_s]
        constructor
        · intro hh
          exact ((hinv s hs τ).mp hh).elim Or.inl (fun h2 => Or.inr (Or.inl h2))
        · rintro (h1 | h2 | ⟨_, h3, h4⟩)
          · exact (hinv s hs τ).mpr (Or.inl h1)
          · exact (hinv s hs τ).mpr (Or.inr h2)
          · rw [← h3]; omega
      · intro s hs
        by_cases es : s = qj_stp d (qj_tl d m * 6 + i)
        · rw [if_pos es, es]
          exact ⟨pk_us, by omega⟩
        · rw [if_neg es, pk_un es]
          exact ho s hs
      · intro s hs τ
        rw [qj_P_s]
        by_cases es : s = qj_stp d (qj_tl d m * 6 + i)
        · rw [if_pos es]
          constructor
          · exact fun hh => Or.inr (Or.inr ⟨hB, es.symm, hh⟩)
          · rintro (h1 | h2 | ⟨_, h3, h4⟩)
            · have := (hinv s hs τ).mpr (Or.inl h1); rw [es] at this; omega
            · have := (hinv s hs τ).mpr (Or.inr h2); rw [es] at this; omega
            · exact h4
        · rw [if_neg es]
          constructor
          · intro hh
            exact ((hinv s hs τ).mp hh).elim Or.inl (fun h2 => Or.inr (Or.inl h2))
          · rintro (h1 | h2 | ⟨_, h3, h4⟩)
            · exact (hinv s hs τ).mpr (Or.inl h1)
            · exact (hinv s hs τ).mpr (Or.inr h2)
            · exact absurd h3.symm es
theorem qx_board (post : SX → Prop) {d : qj_D} (hd : qj_ok d) (lt off rch : Nat → Int32) {m : Nat} (hm : m < 12) {o r : Nat → Nat} (ho : ∀ s, s < 8 → off s = nI (o s) ∧ o s ≤ 1000000) (hr : ∀ s, s < 8 → rch s = nI (r s) ∧ r s ≤ 1000000)
    (h : ∀ (off' : Nat → Int32) (o' : Nat → Nat), (∀ s, s < 8 → off' s = nI (o' s) ∧ o' s ≤ 1000000) → (∀ s, s < 8 → ∀ τ, o' s ≤ τ ↔ (o s ≤ τ ∨ qj_P d r m (qj_len d (qj_tl d m)) s τ)) → post (qx_S d lt off' rch)) : wpX_board post (qx_S d lt off rch) (nI m) := by
  have htl := qj_ok_tl hd m
  have e1 : qa_tl d (nI m).toNatClampNeg = nI (qj_tl d m) := by rw [nI_clamp (by omega)]; exact rfl
  refine ⟨pk_in m 12 hm, nm_r (e' := nI (qj_tl d m * 6)) (by rw [e1, qj_x6]) ⟨pk_in m 12 hm, pk_in (qj_tl d m) 5 htl e1, nm_r (e' := nI (qj_len d (qj_tl d m))) (by rw [e1, nI_clamp (by omega)]; exact rfl) ⟨qj_len d (qj_tl d m) + 1, ?_⟩⟩⟩
  refine qx_board28 post hd lt rch hm hr h (qj_len d (qj_tl d m)) 0 off o 0 (by omega) ho ?_ ?_
  · exact fun s hs τ => ⟨Or.inl, fun hh => hh.elim id (fun h2 => absurd h2 qj_P_0)⟩
  · refine ⟨fun _ => ?_, fun _ => rfl⟩
    rintro ⟨i', h1, _⟩
    omega
theorem qx_ride2 (post : SX → Prop) {d : qj_D} (hd : qj_ok d) {a t K : Nat} (lt rch : Nat → Int32) {o0 r : Nat → Nat}
    (ho0 : ∀ s, s < 8 → qj_Is 1000000 (qj_C d a t K s) (o0 s)) (hr : ∀ s, s < 8 → rch s = nI (r s) ∧ qj_Is 1000000 (qj_H d (qj_C d a t K) s) (r s))
    (h : ∀ off' rch', qx_At d a t (K + 1) off' rch' → post (qx_S d lt off' rch')) :
    ∀ (e i : Nat) (off : Nat → Int32) (o : Nat → Nat), i + e = qj_T d → (∀ s, s < 8 → off s = nI (o s) ∧ o s ≤ 1000000) → (∀ s, s < 8 → ∀ τ, o s ≤ τ ↔ (o0 s ≤ τ ∨ ∃ m, m < i ∧ qj_P d r m (qj_len d (qj_tl d m)) s τ)) →
      wX_rideOnce_2 post (e + 1) (nI i) (nI (qj_L d)) (nI (qj_T d)) (qa_stp d) (qa_aft d) (qa_len d) lt (qa_tl d) (qa_st d) (qa_wk d) off rch := by
  have hT := qj_ok_T hd
  intro e
  induction e with
  | zero =>
    intro i off o hi ho hinv
    have ei : i = qj_T d := by omega
    subst ei
    refine br_t (nI_le (by omega) (by omega)) ?_
    refine qx_walkAt (a := a) (t := t) (K := K + 1) (o := o) _ hd lt off rch ?_ (fun rch' hr' => h _ rch' hr')
    intro s hs
    refine ⟨(ho s hs).1, (ho s hs).2, fun τ hτ => ?_⟩
    rw [hinv s hs τ, (ho0 s hs).2 τ hτ, qj_C_step]
    constructor
    · rintro (h1 | ⟨m, hm, h2⟩)
      · exact Or.inl h1
      · exact Or.inr ⟨m, hm, (qj_P_R hd (by omega) (fun s hs => (hr s hs).2)).mp h2⟩
    · rintro (h1 | ⟨m, hm, h2⟩)
      · exact Or.inl h1
      · exact Or.inr ⟨m, hm, (qj_P_R hd (by omega) (fun s hs => (hr s hs).2)).mpr h2⟩
  | succ e ih =>
    intro i off o hi ho hinv
    refine br_f (nI_ge (by omega) (by omega)) ?_
    refine qx_board _ hd lt off rch (by omega) ho (fun s hs => ⟨(hr s hs).1, (hr s hs).2.1⟩) ?_
    intro off' o' ho' hinv'
    show ∀ x1 : Int32, x1 = nI i + 1 → wX_rideOnce_2 post (e + 1) x1 (nI (qj_L d)) (nI (qj_T d)) (qa_stp d) (qa_aft d) (qa_len d) lt (qa_tl d) (qa_st d) (qa_wk d) off' rch
    refine nm_r (nI_1 i) (ih (i + 1) off' o' (by omega) ho' ?_)
    intro s hs τ
    rw [hinv' s hs τ, hinv s hs τ]
    constructor
    · rintro ((h1 | ⟨m, hm, h2⟩) | h3)
      · exact Or.inl h1
      · exact Or.inr ⟨m, by omega, h2⟩
      · exact Or.inr ⟨i, by omega, h3⟩
    · rintro (h1 | ⟨m, hm, h2⟩)
      · exact Or.inl (Or.inl h1)
      · by_cases em : m = i
        · subst em; exact Or.inr h2
        · exact Or.inl (Or.inr ⟨m, by omega, h2⟩)
theorem qx_rideOnce (post : SX → Prop) {d : qj_D} (hd : qj_ok d) {a t K : Nat} (lt off rch : Nat → Int32) (hAt : qx_At d a t K off rch)
    (h : ∀ off' rch', qx_At d a t (K + 1) off' rch' → post (qx_S d lt off' rch')) : wpX_rideOnce post (qx_S d lt off rch) := by
  obtain ⟨o, r, ho, hr⟩ := hAt
  refine ⟨qj_T d + 1, qx_ride2 post hd lt rch (fun s hs => (ho s hs).2) hr h (qj_T d) 0 off o (by omega) (fun s hs => ⟨(ho s hs).1, (ho s hs).2.1⟩) ?_⟩
  intro s hs τ
  refine ⟨Or.inl, ?_⟩
  rintro (h1 | ⟨m, hm, _⟩)
  · exact h1
  · omega
theorem qx_search9 (post : SX → Prop) {d : qj_D} (hd : qj_ok d) {a t K : Nat} (hK : K ≤ 12) (lt : Nat → Int32)
    (h : ∀ off' rch', qx_At d a t K off' rch' → post (qx_S d lt off' rch')) :
    ∀ e i off rch, i + e = K → qx_At d a t i off rch → wX_search_9 post (nI K) (e + 1) (nI i) (nI (qj_L d)) (nI (qj_T d)) (qa_stp d) (qa_aft d) (qa_len d) lt (qa_tl d) (qa_st d) (qa_wk d) off rch := by
  intro e
  induction e with
  | zero =>
    intro i off rch hi hAt
    have ei : i = K := by omega
    subst ei
    exact br_t (nI_le (by omega) (by omega)) (h off rch hAt)
  | succ e ih =>
    intro i off rch hi hAt
    refine br_f (nI_ge (by omega) (by omega)) ?_
    refine qx_rideOnce _ hd lt off rch hAt ?_
    intro off' rch' hAt'
    show ∀ x1 : Int32, x1 = nI i + 1 → wX_search_9 post (nI K) (e + 1) x1 (nI (qj_L d)) (nI (qj_T d)) (qa_stp d) (qa_aft d) (qa_len d) lt (qa_tl d) (qa_st d) (qa_wk d) off' rch'
    exact nm_r (nI_1 i) (ih (i + 1) off' rch' (by omega) hAt')
theorem qx_search (post : SX → Prop) {d : qj_D} (hd : qj_ok d) {a t K : Nat} (ha : a < 8) (ht : t ≤ 1000) (hK : K ≤ 12) (lt off rch : Nat → Int32)
    (h : ∀ off' rch', qx_At d a t K off' rch' → post (qx_S d lt off' rch')) : wpX_search post (qx_S d lt off rch) (nI a) (nI t) (nI K) := by
  refine qx_beginAt _ hd ha ht lt off rch ?_
  intro off' rch' hAt
  exact ⟨K + 1, qx_search9 post hd hK lt h K 0 off' rch' (by omega) hAt⟩
theorem qx_search_neg (post : SX → Prop) {d : qj_D} (hd : qj_ok d) {a t : Nat} (ha : a < 8) (ht : t ≤ 1000) {p : Int32} (hp : p ≤ 0) (lt off rch : Nat → Int32)
    (h : ∀ off' rch', qx_At d a t 0 off' rch' → post (qx_S d lt off' rch')) : wpX_search post (qx_S d lt off rch) (nI a) (nI t) p := by
  refine qx_beginAt _ hd ha ht lt off rch ?_
  intro off' rch' hAt
  exact ⟨1, br_t hp (h off' rch' hAt)⟩
end
section
theorem qj_uu (f : Nat → Int32) (k : Nat) (x y : Int32) : upd (upd f k x) k y = upd f k y := by
  funext j
  by_cases e : j = k
  · subst e; rw [pk_us, pk_us]
  · rw [pk_un e, pk_un e, pk_un e]
theorem qy_walk32 (post : SY → Prop) (J2 : Int32 → (Nat → Int32) → (Nat → Int32) → (Nat → Int32) → (Nat → Int32) → (Nat → Int32) → (Nat → Int32) → (Nat → Int32) → (Nat → Int32) → Prop) {d : qj_D} (hd : qj_ok d) (off th : Nat → Int32) {k : Nat} (hk : k ≤ 12) {o : Nat → Nat} (ho : ∀ s, s < 8 → off (k * 8 + s) = nI (o s) ∧ o s ≤ 100000) {s : Nat} (hs : s < 8)
    (h : J2 (nI (s + 1)) (qa_len d) (qa_stp d) (qa_aft d) (qa_tl d) (qa_st d) (qa_wk d) off (upd th (k * 8 + s) (nI (qj_wf d o s 8)))) :
    ∀ e i, i + e = 8 → wY_walk_32 post J2 (nI k) (nI s) (nI (qj_L d)) (nI (qj_T d)) (e + 1) (nI i) (qa_len d) (qa_stp d) (qa_aft d) (qa_tl d) (qa_st d) (qa_wk d) off (upd th (k * 8 + s) (nI (qj_wf d o s i))) := by
  intro e
  induction e with
  | zero =>
    intro i hi
    have ei : i = 8 := by omega
    subst ei
    exact br_t (nI_le (b := 8) (a := 8) (by omega) (by decide)) (nm_r (nI_1 s) h)
  | succ e ih =>
    intro i hi
    have ih1 := ih (i + 1) (by omega)
    have hw := qj_ok_wk hd (i * 8 + s)
    have hoi := (ho i (by omega)).2
    have hwl := qj_wf_le d o s i
    have hos := (ho s hs).2
    have eo : off (nI k * 8 + nI i).toNatClampNeg + nI (qj_wk d (i * 8 + s)) = nI (o i + qj_wk d (i * 8 + s)) := by
      rw [qj_ix8, nI_clamp (by omega), (ho i (by omega)).1, nI_add]
    have et : upd th (k * 8 + s) (nI (qj_wf d o s i)) (nI k * 8 + nI s).toNatClampNeg = nI (qj_wf d o s i) := by
      rw [qj_ix8, nI_clamp (by omega), pk_us]
    have e1 : vp_in (nI k * 8 + nI i) 104 := pk_in (k * 8 + i) 104 (by omega) (qj_ix8 k i)
    have e2 : vp_in (nI k * 8 + nI s) 104 := pk_in (k * 8 + s) 104 (by omega) (qj_ix8 k s)
    refine br_f (nI_ge (b := 8) (by omega) (by decide)) ⟨pk_in (i * 8 + s) 64 (by omega) (qj_ix8 i s), nm_r (e' := nI (qj_wk d (i * 8 + s))) (by rw [qj_ix8, nI_clamp (by omega)]; exact rfl) ?_⟩
    refine pk_le (qj_wk d (i * 8 + s)) 0 (fun h0 => nm_r (nI_1 i) ?_) (fun h0 => ⟨e1, e2, ?_⟩)
    · rw [qj_wf, if_neg (by omega)] at ih1
      exact ih1
    · refine pk_le (qj_wf d o s i) (o i + qj_wk d (i * 8 + s)) (fun h1 => nm_r (nI_1 i) ?_) (fun h1 => ⟨e1, e2, nm_r (e' := upd th (k * 8 + s) (nI (o i + qj_wk d (i * 8 + s)))) (by rw [eo, qj_ix8, nI_clamp (by omega), qj_uu]) (nm_r (nI_1 i) ?_)⟩) et eo
      · rw [qj_wf, if_neg (by omega)] at ih1
        exact ih1
      · rw [qj_wf, if_pos (by omega)] at ih1
        exact ih1
theorem qy_walk2 (post : SY → Prop) {d : qj_D} (hd : qj_ok d) (off th0 : Nat → Int32) {k : Nat} (hk : k ≤ 12) {o : Nat → Nat} (ho : ∀ s, s < 8 → off (k * 8 + s) = nI (o s) ∧ o s ≤ 100000)
    (h : ∀ th', (∀ j, j < 8 → th' (k * 8 + j) = nI (qj_wf d o j 8)) → (∀ j, j < k * 8 → th' j = th0 j) → post (qy_S d off th')) :
    ∀ e s th, s + e = 8 → (∀ j, j < s → th (k * 8 + j) = nI (qj_wf d o j 8)) → (∀ j, j < k * 8 → th j = th0 j) → wY_walk_2 post (nI k) (nI (qj_L d)) (nI (qj_T d)) (e + 1) (nI s) (qa_len d) (qa_stp d) (qa_aft d) (qa_tl d) (qa_st d) (qa_wk d) off th := by
  intro e
  induction e with
  | zero =>
    intro s th hs hr hb
    have es : s = 8 := by omega
    subst es
    exact br_t (nI_le (b := 8) (a := 8) (by omega) (by decide)) (h th hr hb)
  | succ e ih =>
    intro s th hs hr hb
    have e2 : vp_in (nI k * 8 + nI s) 104 := pk_in (k * 8 + s) 104 (by omega) (qj_ix8 k s)
    refine br_f (nI_ge (b := 8) (by omega) (by decide)) ⟨e2, e2, nm_r (e' := upd th (k * 8 + s) (nI (qj_wf d o s 0))) (by rw [qj_ix8, nI_clamp (by omega), (ho s (by omega)).1]; exact rfl) ⟨9, ?_⟩⟩
    refine qy_walk32 post _ hd off th hk ho (by omega) ?_ 8 0 (by omega)
    refine ih (s + 1) _ (by omega) ?_ ?_
    · intro j hj
      by_cases e : j = s
      · subst e; exact pk_us
      · rw [pk_un (by omega)]; exact hr j (by omega)
    · intro j hj
      rw [pk_un (by omega)]; exact hb j hj
theorem qy_walk (post : SY → Prop) {d : qj_D} (hd : qj_ok d) (off th : Nat → Int32) {k : Nat} (hk : k ≤ 12) {o : Nat → Nat} (ho : ∀ s, s < 8 → off (k * 8 + s) = nI (o s) ∧ o s ≤ 100000)
    (h : ∀ th', (∀ j, j < 8 → th' (k * 8 + j) = nI (qj_wf d o j 8)) → (∀ j, j < k * 8 → th' j = th j) → post (qy_S d off th')) : wpY_walk post (qy_S d off th) (nI k) :=
  ⟨9, qy_walk2 post hd off th hk ho h 8 0 th (by omega) (fun j hj => absurd hj (by omega)) (fun _ _ => rfl)⟩
/-- trip m, boarded at place i, is left at one of its first x places -/
def qj_J (d : qj_D) (m i x s τ : Nat) : Prop := ∃ j, i < j ∧ j < x ∧ qj_stp d (qj_tl d m * 6 + j) = s ∧ qj_st d m + qj_aft d (qj_tl d m * 6 + j) ≤ τ
theorem qj_J_0 {d : qj_D} {m i s τ : Nat} : ¬ qj_J d m i (i + 1) s τ := by
  rintro ⟨j, h1, h2, _⟩
  omega
theorem qj_J_s {d : qj_D} {m i x s τ : Nat} (hx : i < x) : qj_J d m i (x + 1) s τ ↔ (qj_J d m i x s τ ∨ (qj_stp d (qj_tl d m * 6 + x) = s ∧ qj_st d m + qj_aft d (qj_tl d m * 6 + x) ≤ τ)) := by
  constructor
  · rintro ⟨j, h1, h2, h3, h4⟩
    by_cases e : j = x
    · subst e; exact Or.inr ⟨h3, h4⟩
    · exact Or.inl ⟨j, h1, by omega, h3, h4⟩
  · rintro (⟨j, h1, h2, h3, h4⟩ | ⟨h3, h4⟩)
    · exact ⟨j, h1, by omega, h3, h4⟩
    · exact ⟨x, hx, by omega, h3, h4⟩
theorem qy_ride63 (post : SY → Prop) {d : qj_D} (hd : qj_ok d) (th : Nat → Int32) {k m i0 : Nat} (hk : k ≤ 12) (hm : m < 12) {o0 : Nat → Nat}
    (h : ∀ (off' : Nat → Int32) (o' : Nat → Nat), (∀ s, s < 8 → off' (k * 8 + s) = nI (o' s) ∧ o' s ≤ 100000) → (∀ s, s < 8 → ∀ τ, o' s ≤ τ ↔ (o0 s ≤ τ ∨ qj_J d m i0 (qj_len d (qj_tl d m)) s τ)) → post (qy_S d off' th)) :
    ∀ (e j : Nat) (off : Nat → Int32) (o : Nat → Nat), i0 < j → j + e = qj_len d (qj_tl d m) → (∀ s, s < 8 → off (k * 8 + s) = nI (o s) ∧ o s ≤ 100000) → (∀ s, s < 8 → ∀ τ, o s ≤ τ ↔ (o0 s ≤ τ ∨ qj_J d m i0 j s τ)) →
      wY_ride_63 post (nI k) (nI m) (nI (qj_tl d m * 6)) 1 (nI (qj_L d)) (nI (qj_T d)) (e + 1) (nI j) (qa_len d) (qa_stp d) (qa_aft d) (qa_tl d) (qa_st d) (qa_wk d) off th := by
  have hlen := qj_ok_len hd (qj_tl d m)
  have htl := qj_ok_tl hd m
  have etl : qa_tl d (nI m).toNatClampNeg = nI (qj_tl d m) := by rw [nI_clamp (by omega)]; exact rfl
  have elen : qa_len d (qa_tl d (nI m).toNatClampNeg).toNatClampNeg = nI (qj_len d (qj_tl d m)) := by rw [etl, nI_clamp (by omega)]; exact rfl
  intro e
  induction e with
  | zero =>
    intro j off o hj0 hj ho hinv
    have ej : j = qj_len d (qj_tl d m) := by omega
    subst ej
    exact br_f (by decide) ⟨pk_in m 12 hm, pk_in (qj_tl d m) 5 htl etl, br_t (by rw [elen]; exact nI_le (by omega) (by omega)) (h off o ho hinv)⟩
  | succ e ih =>
    intro j off o hj0 hj ho hinv
    have hS := qj_ok_stp hd (qj_tl d m * 6 + j)
    have hT := qj_tm_le hd (m := m) (i := j) (by omega)
    have hoS := (ho _ hS).2
    have eix : nI (qj_tl d m * 6) + nI j = nI (qj_tl d m * 6 + j) := nI_add _ _
    have ein : vp_in (nI (qj_tl d m * 6) + nI j) 30 := pk_in (qj_tl d m * 6 + j) 30 (by omega) eix
    have eS : nI k * 8 + qa_stp d (nI (qj_tl d m * 6) + nI j).toNatClampNeg = nI (k * 8 + qj_stp d (qj_tl d m * 6 + j)) := by
      rw [eix, nI_clamp (by omega)]; exact qj_ix8 _ _
    have eT : qa_st d (nI m).toNatClampNeg + qa_aft d (nI (qj_tl d m * 6) + nI j).toNatClampNeg = nI (qj_st d m + qj_aft d (qj_tl d m * 6 + j)) := by
      rw [eix, nI_clamp (by omega), nI_clamp (by omega)]; exact nI_add _ _
    have eO : off (nI (k * 8 + qj_stp d (qj_tl d m * 6 + j))).toNatClampNeg = nI (o (qj_stp d (qj_tl d m * 6 + j))) := by
      rw [nI_clamp (by omega), (ho _ hS).1]
    have e7 : vp_in (nI (k * 8 + qj_stp d (qj_tl d m * 6 + j))) 104 := pk_in (k * 8 + qj_stp d (qj_tl d m * 6 + j)) 104 (by omega)
    refine br_f (by decide) ⟨pk_in m 12 hm, pk_in (qj_tl d m) 5 htl etl, br_f (by rw [elen]; exact nI_ge (by omega) (by omega)) ⟨ein, nm_r eS ⟨pk_in m 12 hm, ein, nm_r eT ⟨e7, ?_⟩⟩⟩⟩
    refine pk_le (o (qj_stp d (qj_tl d m * 6 + j))) (qj_st d m + qj_aft d (qj_tl d m * 6 + j)) (fun hle => nm_r (nI_1 j) (ih (j + 1) off o (by omega) (by omega) ho ?_)) (fun hgt => ⟨e7, nm_r (e' := upd off (k * 8 + qj_stp d (qj_tl d m * 6 + j)) (nI (qj_st d m + qj_aft d (qj_tl d m * 6 + j)))) (by rw [nI_clamp (by omega)]) (nm_r (nI_1 j) (ih (j + 1) _ (fun s => if s = qj_stp d (qj_tl d m * 6 + j) then qj_st d m + qj_aft d (qj_tl d m * 6 + j) else o s) (by omega) (by omega) ?_ ?_))⟩) eO rfl
    · intro s hs τ
      rw [qj_J_s hj0]
      constructor
      · intro hh
        exact ((hinv s hs τ).mp hh).elim Or.inl (fun h2 => Or.inr (Or.inl h2))
      · rintro (h1 | h2 | ⟨h3, h4⟩)
        · exact (hinv s hs τ).mpr (Or.inl h1)
        · exact (hinv s hs τ).mpr (Or.inr h2)
        · rw [← h3]; omega
    · intro s hs
      by_cases es : s = qj_stp d (qj_tl d m * 6 + j)
      · rw [if_pos es, es]
        exact ⟨pk_us, by omega⟩
      · rw [if_neg es, pk_un (by omega)]
        exact ho s hs
    · intro s hs τ
      rw [qj_J_s hj0]
      by_cases es : s = qj_stp d (qj_tl d m * 6 + j)
      · rw [if_pos es]
        constructor
        · exact fun hh => Or.inr (Or.inr ⟨es.symm, hh⟩)
        · rintro (h1 | h2 | ⟨h3, h4⟩)
          · have := (hinv s hs τ).mpr (Or.inl h1); rw [es] at this; omega
          · have := (hinv s hs τ).mpr (Or.inr h2); rw [es] at this; omega
          · exact h4
      · rw [if_neg es]
        constructor
        · intro hh
          exact ((hinv s hs τ).mp hh).elim Or.inl (fun h2 => Or.inr (Or.inl h2))
        · rintro (h1 | h2 | ⟨h3, h4⟩)
          · exact (hinv s hs τ).mpr (Or.inl h1)
          · exact (hinv s hs τ).mpr (Or.inr h2)
          · exact absurd h3.symm es
theorem qy_ride (post : SY → Prop) {d : qj_D} (hd : qj_ok d) (off th : Nat → Int32) {k m i : Nat} (hk : k < 12) (hm : m < 12) (hi : i < qj_len d (qj_tl d m)) {o r : Nat → Nat}
    (ho : ∀ s, s < 8 → off ((k + 1) * 8 + s) = nI (o s) ∧ o s ≤ 100000) (hr : ∀ s, s < 8 → th (k * 8 + s) = nI (r s) ∧ r s ≤ 100000)
    (h : ∀ (off' : Nat → Int32) (o' : Nat → Nat), (∀ s, s < 8 → off' ((k + 1) * 8 + s) = nI (o' s) ∧ o' s ≤ 100000) → (∀ s, s < 8 → ∀ τ, o' s ≤ τ ↔ (o s ≤ τ ∨ (r (qj_stp d (qj_tl d m * 6 + i)) ≤ qj_st d m + qj_aft d (qj_tl d m * 6 + i) ∧ qj_J d m i (qj_len d (qj_tl d m)) s τ))) → post (qy_S d off' th)) :
    wpY_ride post (qy_S d off th) (nI (k + 1)) (nI m) (nI i) := by
  have hlen := qj_ok_len hd (qj_tl d m)
  have htl := qj_ok_tl hd m
  have hS := qj_ok_stp hd (qj_tl d m * 6 + i)
  have hT := qj_tm_le hd hi
  have hrS := (hr _ hS).2
  have etl : qa_tl d (nI m).toNatClampNeg = nI (qj_tl d m) := by rw [nI_clamp (by omega)]; exact rfl
  have eix : nI (qj_tl d m * 6) + nI i = nI (qj_tl d m * 6 + i) := nI_add _ _
  have ein : vp_in (nI (qj_tl d m * 6) + nI i) 30 := pk_in (qj_tl d m * 6 + i) 30 (by omega) eix
  have eS : (nI (k + 1) - 1) * 8 + qa_stp d (nI (qj_tl d m * 6) + nI i).toNatClampNeg = nI (k * 8 + qj_stp d (qj_tl d m * 6 + i)) := by
    rw [eix, nI_clamp (by omega), nI_pred]; exact qj_ix8 _ _
  have eT : qa_st d (nI m).toNatClampNeg + qa_aft d (nI (qj_tl d m * 6) + nI i).toNatClampNeg = nI (qj_st d m + qj_aft d (qj_tl d m * 6 + i)) := by
    rw [eix, nI_clamp (by omega), nI_clamp (by omega)]; exact nI_add _ _
  have eR : th ((nI (k + 1) - 1) * 8 + qa_stp d (nI (qj_tl d m * 6) + nI i).toNatClampNeg).toNatClampNeg = nI (r (qj_stp d (qj_tl d m * 6 + i))) := by
    rw [eS, nI_clamp (by omega), (hr _ hS).1]
  refine ⟨pk_in m 12 hm, nm_r (e' := nI (qj_tl d m * 6)) (by rw [etl, qj_x6]) ⟨ein, pk_in (k * 8 + qj_stp d (qj_tl d m * 6 + i)) 104 (by omega) eS, pk_in m 12 hm, ein, ?_⟩⟩
  refine pk_lt (qj_st d m + qj_aft d (qj_tl d m * 6 + i)) (r (qj_stp d (qj_tl d m * 6 + i))) (fun hlt => nm_e ⟨1, br_t rfl (h off o ho ?_)⟩) (fun hge => nm_r (nI_1 i) ⟨qj_len d (qj_tl d m) - (i + 1) + 1, ?_⟩) eT eR
  · intro s hs τ
    refine ⟨Or.inl, fun hh => hh.elim id (fun h2 => ?_)⟩
    have := h2.1
    omega
  · refine qy_ride63 post hd th (by omega) hm (o0 := o) (i0 := i) (fun off' o' h1 h2 => h off' o' h1 ?_) (qj_len d (qj_tl d m) - (i + 1)) (i + 1) off o (by omega) (by omega) ho ?_
    · intro s hs τ
      rw [h2 s hs τ]
      exact ⟨fun hh => hh.elim Or.inl (fun h3 => Or.inr ⟨hge, h3⟩), fun hh => hh.elim Or.inl (fun h3 => Or.inr h3.2)⟩
    · exact fun s hs τ => ⟨Or.inl, fun hh => hh.elim id (fun h2 => absurd h2 qj_J_0)⟩
end
section
/-- the reference's scratch after rounds 0 to K from a at t -/
def qy_At (d : qj_D) (a t K : Nat) (th : Nat → Int32) : Prop := ∃ r : Nat → Nat → Nat,
  ∀ k, k ≤ K → ∀ s, s < 8 → th (k * 8 + s) = nI (r k s) ∧ qj_Is 100000 (qj_H d (qj_O d a t k) s) (r k s)
theorem qy_At_s {d : qj_D} {a t K : Nat} {th th' : Nat → Int32} {w : Nat → Nat} (h : qy_At d a t K th) (hb : ∀ j, j < (K + 1) * 8 → th' j = th j)
    (hw : ∀ s, s < 8 → th' ((K + 1) * 8 + s) = nI (w s) ∧ qj_Is 100000 (qj_H d (qj_O d a t (K + 1)) s) (w s)) : qy_At d a t (K + 1) th' := by
  obtain ⟨r, hr⟩ := h
  refine ⟨fun k s => if k ≤ K then r k s else w s, fun k hk s hs => ?_⟩
  by_cases e : k ≤ K
  · have := hr k e s hs
    simp only [if_pos e]
    rw [hb _ (by omega)]
    exact this
  · have ek : k = K + 1 := by omega
    subst ek
    simp only [if_neg e]
    exact hw s hs
/-- a ride that is boarded at one of the first x places, six a trip -/
def qj_Q (d : qj_D) (r : Nat → Nat) (x s τ : Nat) : Prop := ∃ m i, m * 6 + i < x ∧ i < 6 ∧ r (qj_stp d (qj_tl d m * 6 + i)) ≤ qj_st d m + qj_aft d (qj_tl d m * 6 + i) ∧ qj_J d m i (qj_len d (qj_tl d m)) s τ
theorem qj_Q_0 {d : qj_D} {r : Nat → Nat} {s τ : Nat} : ¬ qj_Q d r 0 s τ := by
  rintro ⟨m, i, h1, _⟩
  omega
theorem qj_Q_s {d : qj_D} {r : Nat → Nat} {x s τ : Nat} : qj_Q d r (x + 1) s τ ↔ (qj_Q d r x s τ ∨ (r (qj_stp d (qj_tl d (x / 6) * 6 + x % 6)) ≤ qj_st d (x / 6) + qj_aft d (qj_tl d (x / 6) * 6 + x % 6) ∧ qj_J d (x / 6) (x % 6) (qj_len d (qj_tl d (x / 6))) s τ)) := by
  constructor
  · rintro ⟨m, i, h1, h2, h3, h4⟩
    by_cases e : m * 6 + i = x
    · have e1 : x / 6 = m := by omega
      have e2 : x % 6 = i := by omega
      rw [e1, e2]
      exact Or.inr ⟨h3, h4⟩
    · exact Or.inl ⟨m, i, by omega, h2, h3, h4⟩
  · rintro (⟨m, i, h1, h2, h3, h4⟩ | ⟨h3, h4⟩)
    · exact ⟨m, i, by omega, h2, h3, h4⟩
    · exact ⟨x / 6, x % 6, by omega, by omega, h3, h4⟩
theorem qj_Q_P {d : qj_D} (hd : qj_ok d) {r : Nat → Nat} {s τ : Nat} : qj_Q d r (qj_T d * 6) s τ ↔ ∃ m, m < qj_T d ∧ qj_P d r m (qj_len d (qj_tl d m)) s τ := by
  constructor
  · rintro ⟨m, i, h1, h2, h3, j, h4, h5, h6, h7⟩
    exact ⟨m, by omega, i, j, h4, h5, h3, h6, h7⟩
  · rintro ⟨m, hm, i, j, h4, h5, h3, h6, h7⟩
    have := qj_ok_len hd (qj_tl d m)
    exact ⟨m, i, by omega, by omega, h3, j, h4, h5, h6, h7⟩
theorem qj_div6 {x : Nat} (h : x < 1000) : nI x / 6 = nI (x / 6) := pk_div (d := 6) (by omega) (by decide) (by decide)
theorem qj_rem6 {x : Nat} (h : x < 1000) : nI x - nI x / 6 * 6 = nI (x % 6) := pk_rem (d := 6) (by omega) (by decide) (by decide)
theorem qy_search83 (post : SY → Prop) (J43 : Int32 → Int32 → Int32 → (Nat → Int32) → (Nat → Int32) → (Nat → Int32) → (Nat → Int32) → (Nat → Int32) → (Nat → Int32) → (Nat → Int32) → (Nat → Int32) → Prop) (x3 : Int32) {d : qj_D} (hd : qj_ok d) {a t k : Nat} (hk : k < 12) (th : Nat → Int32) (hAt : qy_At d a t k th) {r : Nat → Nat}
    (hr : ∀ s, s < 8 → th (k * 8 + s) = nI (r s) ∧ qj_Is 100000 (qj_H d (qj_O d a t k) s) (r s))
    (h : ∀ off' th', qy_At d a t (k + 1) th' → J43 (nI (k + 2)) (nI (qj_L d)) (nI (qj_T d)) (qa_len d) (qa_stp d) (qa_aft d) (qa_tl d) (qa_st d) (qa_wk d) off' th') :
    ∀ (e x : Nat) (off : Nat → Int32) (o : Nat → Nat), x + e = qj_T d * 6 → (∀ s, s < 8 → off ((k + 1) * 8 + s) = nI (o s) ∧ o s ≤ 100000) → (∀ s, s < 8 → ∀ τ, o s ≤ τ ↔ (100000 ≤ τ ∨ qj_Q d r x s τ)) →
      wY_search_83 post J43 x3 (nI (k + 1)) (e + 1) (nI x) (nI (qj_L d)) (nI (qj_T d)) (qa_len d) (qa_stp d) (qa_aft d) (qa_tl d) (qa_st d) (qa_wk d) off th := by
  have hT := qj_ok_T hd
  have eT6 : nI (qj_T d) * 6 = nI (qj_T d * 6) := qj_x6 _
  intro e
  induction e with
  | zero =>
    intro x off o hx ho hinv
    have ex : x = qj_T d * 6 := by omega
    subst ex
    refine br_t (by rw [eT6]; exact nI_le (by omega) (by omega)) ?_
    refine qy_walk _ hd off th (by omega) ho ?_
    intro th' h1 h2
    show ∀ x4 : Int32, x4 = nI (k + 1) + 1 → J43 x4 (nI (qj_L d)) (nI (qj_T d)) (qa_len d) (qa_stp d) (qa_aft d) (qa_tl d) (qa_st d) (qa_wk d) off th'
    refine nm_r (nI_1 (k + 1)) (h off th' (qy_At_s hAt h2 (w := fun s => qj_wf d o s 8) ?_))
    intro s hs
    refine ⟨h1 s hs, qj_wf_is ?_ hs⟩
    intro s hs
    refine ⟨(ho s hs).2, fun τ hτ => ?_⟩
    rw [hinv s hs τ, qj_Q_P hd]
    constructor
    · rintro (h3 | ⟨m, hm, h3⟩)
      · omega
      · exact ⟨m, hm, (qj_P_R hd (by omega) (fun s hs => (hr s hs).2)).mp h3⟩
    · rintro ⟨m, hm, h3⟩
      exact Or.inr ⟨m, hm, (qj_P_R hd (by omega) (fun s hs => (hr s hs).2)).mpr h3⟩
  | succ e ih =>
    intro x off o hx ho hinv
    have hm : x / 6 < 12 := by omega
    have htl := qj_ok_tl hd (x / 6)
    have hlen := qj_ok_len hd (qj_tl d (x / 6))
    have e1 : nI x / 6 = nI (x / 6) := qj_div6 (by omega)
    have e2 : nI x - nI x / 6 * 6 = nI (x % 6) := qj_rem6 (by omega)
    have etl : qa_tl d (nI x / 6).toNatClampNeg = nI (qj_tl d (x / 6)) := by rw [e1, nI_clamp (by omega)]; exact rfl
    have elen : qa_len d (qa_tl d (nI x / 6).toNatClampNeg).toNatClampNeg = nI (qj_len d (qj_tl d (x / 6))) := by rw [etl, nI_clamp (by omega)]; exact rfl
    refine br_f (by rw [eT6]; exact nI_ge (by omega) (by omega)) ⟨by decide, by decide, pk_in (x / 6) 12 hm e1, pk_in (qj_tl d (x / 6)) 5 htl etl, ?_⟩
    refine pk_le (qj_len d (qj_tl d (x / 6))) (x % 6) (fun hle => nm_r (nI_1 x) (ih (x + 1) off o (by omega) ho ?_)) (fun hgt => ⟨by decide, by decide, ?_⟩) elen e2
    · intro s hs τ
      rw [hinv s hs τ, qj_Q_s]
      refine ⟨fun hh => hh.elim Or.inl (fun h2 => Or.inr (Or.inl h2)), ?_⟩
      rintro (h1 | h2 | ⟨_, j, h4, h5, _⟩)
      · exact Or.inl h1
      · exact Or.inr h2
      · omega
    · rw [e2, e1]
      refine qy_ride _ hd off th hk hm hgt ho (fun s hs => ⟨(hr s hs).1, (hr s hs).2.1⟩) ?_
      intro off' o' ho' hinv'
      show ∀ x1 : Int32, x1 = nI x + 1 → wY_search_83 post J43 x3 (nI (k + 1)) (e + 1) x1 (nI (qj_L d)) (nI (qj_T d)) (qa_len d) (qa_stp d) (qa_aft d) (qa_tl d) (qa_st d) (qa_wk d) off' th
      refine nm_r (nI_1 x) (ih (x + 1) off' o' (by omega) ho' ?_)
      intro s hs τ
      rw [hinv' s hs τ, hinv s hs τ, qj_Q_s]
      exact or_assoc
theorem qy_search52 (post : SY → Prop) (J43 : Int32 → Int32 → Int32 → (Nat → Int32) → (Nat → Int32) → (Nat → Int32) → (Nat → Int32) → (Nat → Int32) → (Nat → Int32) → (Nat → Int32) → (Nat → Int32) → Prop) (x3 : Int32) {d : qj_D} (hd : qj_ok d) {a t k : Nat} (hk : k < 12) (th : Nat → Int32) (hAt : qy_At d a t k th)
    (h : ∀ off' th', qy_At d a t (k + 1) th' → J43 (nI (k + 2)) (nI (qj_L d)) (nI (qj_T d)) (qa_len d) (qa_stp d) (qa_aft d) (qa_tl d) (qa_st d) (qa_wk d) off' th') :
    ∀ (e i : Nat) (off : Nat → Int32), i + e = 8 → (∀ s, s < i → off ((k + 1) * 8 + s) = nI 100000) →
      wY_search_52 post J43 x3 (nI (k + 1)) (nI (qj_L d)) (nI (qj_T d)) (e + 1) (nI i) (qa_len d) (qa_stp d) (qa_aft d) (qa_tl d) (qa_st d) (qa_wk d) off th := by
  intro e
  induction e with
  | zero =>
    intro i off hi hoff
    have ei : i = 8 := by omega
    subst ei
    refine br_t (nI_le (b := 8) (a := 8) (by omega) (by decide)) ⟨qj_T d * 6 + 1, ?_⟩
    have hAt' := hAt
    obtain ⟨r, hr⟩ := hAt'
    refine qy_search83 post J43 x3 hd hk th hAt (r := r k) (hr k (Nat.le_refl k)) h (qj_T d * 6) 0 off (fun _ => 100000) (by omega) (fun s hs => ⟨hoff s hs, Nat.le_refl _⟩) ?_
    exact fun s hs τ => ⟨Or.inl, fun hh => hh.elim id (fun h2 => absurd h2 qj_Q_0)⟩
  | succ e ih =>
    intro i off hi hoff
    refine br_f (nI_ge (b := 8) (by omega) (by decide)) ⟨pk_in ((k + 1) * 8 + i) 104 (by omega) (qj_ix8 (k + 1) i), nm_r (e' := upd off ((k + 1) * 8 + i) (nI 100000)) (by rw [qj_ix8, nI_clamp (by omega)]; exact rfl) (nm_r (nI_1 i) (ih (i + 1) _ (by omega) ?_))⟩
    intro s hs
    by_cases e : s = i
    · subst e; exact pk_us
    · rw [pk_un (by omega)]; exact hoff s (by omega)
theorem qy_search43 (post : SY → Prop) {d : qj_D} (hd : qj_ok d) {a t K : Nat} (hK : K ≤ 12)
    (h : ∀ off' th', qy_At d a t K th' → post (qy_S d off' th')) :
    ∀ (e k : Nat) (off th : Nat → Int32), k + e = K → qy_At d a t k th → wY_search_43 post (nI K) (e + 1) (nI (k + 1)) (nI (qj_L d)) (nI (qj_T d)) (qa_len d) (qa_stp d) (qa_aft d) (qa_tl d) (qa_st d) (qa_wk d) off th := by
  intro e
  induction e with
  | zero =>
    intro k off th hk hAt
    have ek : k = K := by omega
    subst ek
    exact br_t (nI_lt (by omega) (by omega)) (h off th hAt)
  | succ e ih =>
    intro k off th hk hAt
    refine br_f (nI_nlt (by omega) (by omega)) ⟨9, ?_⟩
    exact qy_search52 post _ (nI K) hd (by omega) th hAt (fun off' th' hAt' => ih (k + 1) off' th' (by omega) hAt') 8 0 off (by omega) (fun s hs => absurd hs (by omega))
theorem qy_search3 (post : SY → Prop) {d : qj_D} (hd : qj_ok d) {a t K : Nat} (ha : a < 8) (ht : t ≤ 1000) (hK : K ≤ 12) (th : Nat → Int32)
    (h : ∀ off' th', qy_At d a t K th' → post (qy_S d off' th')) :
    ∀ (e i : Nat) (off : Nat → Int32), i + e = 8 → (∀ s, s < i → off s = nI (if s = a then t else 100000)) →
      wY_search_3 post (nI a) (nI t) (nI K) (nI (qj_L d)) (nI (qj_T d)) (e + 1) (nI i) (qa_len d) (qa_stp d) (qa_aft d) (qa_tl d) (qa_st d) (qa_wk d) off th := by
  intro e
  induction e with
  | zero =>
    intro i off hi hoff
    have ei : i = 8 := by omega
    subst ei
    refine br_t (nI_le (b := 8) (a := 8) (by omega) (by decide)) ?_
    have hI : ∀ s, s < 8 → qj_Is 100000 (qj_O d a t 0 s) (if s = a then t else 100000) := by
      intro s hs
      by_cases e : s = a
      · rw [if_pos e]
        exact ⟨by omega, fun τ hτ => ⟨fun hh => ⟨e, hh⟩, fun hh => hh.2⟩⟩
      · rw [if_neg e]
        exact ⟨Nat.le_refl _, fun τ hτ => ⟨fun hh => by omega, fun hh => absurd hh.1 e⟩⟩
    refine qy_walk (k := 0) (o := fun s => if s = a then t else 100000) _ hd off th (by omega) ?_ ?_
    · intro s hs
      refine ⟨?_, (hI s hs).1⟩
      rw [show 0 * 8 + s = s from by omega]
      exact hoff s hs
    · intro th' h1 h2
      refine ⟨K + 1, qy_search43 post hd hK h K 0 off th' (by omega) ⟨fun _ s => qj_wf d (fun s => if s = a then t else 100000) s 8, ?_⟩⟩
      intro k hk s hs
      have ek : k = 0 := by omega
      subst ek
      exact ⟨h1 s hs, qj_wf_is hI hs⟩
  | succ e ih =>
    intro i off hi hoff
    refine br_f (nI_ge (b := 8) (by omega) (by decide)) ?_
    refine pk_eq i a (fun hia => ⟨pk_in i 104 (by omega), nm_r (e' := upd off i (nI t)) (by rw [nI_clamp (by omega)]) (nm_r (nI_1 i) (ih (i + 1) _ (by omega) ?_))⟩) (fun hia => ⟨pk_in i 104 (by omega), nm_r (e' := upd off i (nI 100000)) (by rw [nI_clamp (by omega)]; exact rfl) (nm_r (nI_1 i) (ih (i + 1) _ (by omega) ?_))⟩)
    · intro s hs
      by_cases e : s = i
      · rw [if_pos (by omega), e]; exact pk_us
      · rw [pk_un e]; exact hoff s (by omega)
    · intro s hs
      by_cases e : s = i
      · rw [if_neg (by omega), e]; exact pk_us
      · rw [pk_un e]; exact hoff s (by omega)
theorem qy_search (post : SY → Prop) {d : qj_D} (hd : qj_ok d) {a t K : Nat} (ha : a < 8) (ht : t ≤ 1000) (hK : K ≤ 12) (off th : Nat → Int32)
    (h : ∀ off' th', qy_At d a t K th' → post (qy_S d off' th')) : wpY_search post (qy_S d off th) (nI a) (nI t) (nI K) :=
  ⟨9, qy_search3 post hd ha ht hK th h 8 0 off (by omega) (fun s hs => absurd hs (by omega))⟩
theorem qy_best6 (post : Int32 → Prop) {d : qj_D} {a t K K0 b : Nat} (hK : K ≤ K0) (hK0 : K0 ≤ 12) (hb : b < 8) (off th : Nat → Int32) (hAt : qy_At d a t K0 th)
    (h : ∀ n, qj_Is 100000 (qj_H d (qj_C d a t K) b) n → post (nI n)) :
    ∀ e k v, k + e = K + 1 → qj_Is 100000 (fun τ => ∃ k', k' < k ∧ qj_H d (qj_O d a t k') b τ) v → wY_best_6 post (nI b) (nI K) (nI (qj_L d)) (nI (qj_T d)) (qa_len d) (qa_stp d) (qa_aft d) (qa_tl d) (qa_st d) (qa_wk d) off th (e + 1) (nI v) (nI k) := by
  obtain ⟨r, hr⟩ := hAt
  intro e
  induction e with
  | zero =>
    intro k v hk hv
    have ek : k = K + 1 := by omega
    subst ek
    refine br_t (nI_lt (by omega) (by omega)) (h v (qj_Is_iff ?_ hv))
    intro τ hτ
    rw [qj_HC]
    constructor
    · rintro ⟨k', h1, h2⟩
      exact ⟨k', by omega, h2⟩
    · rintro ⟨k', h1, h2⟩
      exact ⟨k', by omega, h2⟩
  | succ e ih =>
    intro k v hk hv
    have hrk := hr k (by omega) b hb
    have hv1 := hv.1
    have hr1 := hrk.2.1
    have et : th (nI k * 8 + nI b).toNatClampNeg = nI (r k b) := by
      rw [qj_ix8, nI_clamp (by omega), hrk.1]
    have ei : vp_in (nI k * 8 + nI b) 104 := pk_in (k * 8 + b) 104 (by omega) (qj_ix8 k b)
    refine br_f (nI_nlt (by omega) (by omega)) ⟨ei, pk_le v (r k b) (fun hle => nm_r (nI_1 k) (ih (k + 1) v (by omega) ⟨hv1, ?_⟩)) (fun hgt => ⟨ei, nm_r et (nm_r (nI_1 k) (ih (k + 1) (r k b) (by omega) ⟨hr1, ?_⟩))⟩) rfl et⟩
    · intro τ hτ
      constructor
      · intro hh
        obtain ⟨k', h1, h2⟩ := (hv.2 τ hτ).mp hh
        exact ⟨k', by omega, h2⟩
      · rintro ⟨k', h1, h2⟩
        by_cases e : k' = k
        · subst e
          have := (hrk.2.2 τ hτ).mpr h2
          omega
        · exact (hv.2 τ hτ).mpr ⟨k', by omega, h2⟩
    · intro τ hτ
      constructor
      · exact fun hh => ⟨k, by omega, (hrk.2.2 τ hτ).mp hh⟩
      · rintro ⟨k', h1, h2⟩
        by_cases e : k' = k
        · subst e
          exact (hrk.2.2 τ hτ).mpr h2
        · have := (hv.2 τ hτ).mpr ⟨k', by omega, h2⟩
          omega
theorem qy_best (post : Int32 → Prop) {d : qj_D} {a t K K0 b : Nat} (hK : K ≤ K0) (hK0 : K0 ≤ 12) (hb : b < 8) (off th : Nat → Int32) (hAt : qy_At d a t K0 th)
    (h : ∀ n, qj_Is 100000 (qj_H d (qj_C d a t K) b) n → post (nI n)) : wpY_best post (qy_S d off th) (nI b) (nI K) := by
  refine ⟨K + 1 + 1, qy_best6 post hK hK0 hb off th hAt h (K + 1) 0 100000 (by omega) ⟨Nat.le_refl _, fun τ hτ => ⟨fun hh => by omega, ?_⟩⟩⟩
  rintro ⟨k', h1, _⟩
  omega
end
section
/-- the component's count of a line's trips -/
def qj_lt (d : qj_D) (lt : Nat → Int32) : Prop := ∃ c : Nat → Nat, (∀ l, l < 5 → lt l = nI (c l) ∧ c l ≤ qj_T d) ∧ ∀ l, l < 5 → (0 < c l ↔ ∃ m, m < qj_T d ∧ qj_tl d m = l)
/-- one timetable on both sides; the searches' scratch is free -/
def i_Rel (k : Nat) (u : SX) (v : SY) : Prop := ∃ (d : qj_D) (lt off rch off' th : Nat → Int32), qj_ok d ∧ qj_lt d lt ∧ u = qx_S d lt off rch ∧ v = qy_S d off' th
theorem qj_rel {k : Nat} {d : qj_D} {lt off rch off' th : Nat → Int32} (hd : qj_ok d) (hlt : qj_lt d lt) : i_Rel k (qx_S d lt off rch) (qy_S d off' th) := ⟨d, lt, off, rch, off', th, hd, hlt, rfl, rfl⟩
theorem qj_rng (x : Int32) (hi : Nat) (h : hi < 2 ^ 31) : x < 0 ∨ (¬ x < 0 ∧ nI hi < x ∧ ¬ x ≤ nI hi) ∨ ∃ j : Nat, j ≤ hi ∧ x = nI j := by
  by_cases h0 : x < 0
  · exact Or.inl h0
  · obtain ⟨j, hj, rfl⟩ := nI_of h0
    by_cases h2 : j ≤ hi
    · exact Or.inr (Or.inr ⟨j, h2, rfl⟩)
    · exact Or.inr (Or.inl ⟨h0, nI_lt (by omega) hj, nI_ge (by omega) hj⟩)
theorem qj_ix (x : Int32) (n : Nat) (h : n < 2 ^ 31) : (x < 0 ∨ (¬ x < 0 ∧ nI n ≤ x)) ∨ ∃ j : Nat, j < n ∧ x = nI j := by
  by_cases h0 : x < 0
  · exact Or.inl (Or.inl h0)
  · obtain ⟨j, hj, rfl⟩ := nI_of h0
    by_cases h2 : j < n
    · exact Or.inr ⟨j, h2, rfl⟩
    · exact Or.inl (Or.inr ⟨h0, nI_le (by omega) hj⟩)
theorem qj_10 : ¬ (1 : Int32) = 0 := by decide
theorem qx_isStop_no {post : Int32 → Prop} {x : Int32} (h : x < 0 ∨ (¬ x < 0 ∧ nI 8 ≤ x)) (hp : post 0) : wpX_isStop post x := by
  rcases h with h0 | ⟨h0, h1⟩
  · exact br_t h0 hp
  · exact br_f h0 (br_t h1 hp)
theorem qx_isStop_yes {post : Int32 → Prop} {a : Nat} (ha : a < 8) (hp : post 1) : wpX_isStop post (nI a) :=
  br_f (nI_pos (by omega)) (br_f (nI_ge (b := 8) ha (by decide)) hp)
theorem qy_isStop_no {post : Int32 → Prop} {d : qj_D} {off th : Nat → Int32} {x : Int32} (h : x < 0 ∨ (¬ x < 0 ∧ nI 8 ≤ x)) (hp : post 0) : wpY_isStop post (qy_S d off th) x := by
  rcases h with h0 | ⟨h0, h1⟩
  · exact br_t h0 hp
  · exact br_f h0 (br_t h1 hp)
theorem qy_isStop_yes {post : Int32 → Prop} {d : qj_D} {off th : Nat → Int32} {a : Nat} (ha : a < 8) (hp : post 1) : wpY_isStop post (qy_S d off th) (nI a) :=
  br_f (nI_pos (by omega)) (br_f (nI_ge (b := 8) ha (by decide)) hp)
theorem qx_isLine_no {post : Int32 → Prop} {d : qj_D} {lt off rch : Nat → Int32} {x : Int32} (h : x < 0 ∨ (¬ x < 0 ∧ nI (qj_L d) ≤ x)) (hp : post 0) : wpX_isLine post (qx_S d lt off rch) x := by
  rcases h with h0 | ⟨h0, h1⟩
  · exact br_t h0 hp
  · exact br_f h0 (br_t h1 hp)
theorem qx_isLine_yes {post : Int32 → Prop} {d : qj_D} (hd : qj_ok d) {lt off rch : Nat → Int32} {l : Nat} (hl : l < qj_L d) (hp : post 1) : wpX_isLine post (qx_S d lt off rch) (nI l) := by
  have := qj_ok_L hd
  exact br_f (nI_pos (by omega)) (br_f (nI_ge hl (by omega)) hp)
theorem qy_isLine_no {post : Int32 → Prop} {d : qj_D} {off th : Nat → Int32} {x : Int32} (h : x < 0 ∨ (¬ x < 0 ∧ nI (qj_L d) ≤ x)) (hp : post 0) : wpY_isLine post (qy_S d off th) x := by
  rcases h with h0 | ⟨h0, h1⟩
  · exact br_t h0 hp
  · exact br_f h0 (br_t h1 hp)
theorem qy_isLine_yes {post : Int32 → Prop} {d : qj_D} (hd : qj_ok d) {off th : Nat → Int32} {l : Nat} (hl : l < qj_L d) (hp : post 1) : wpY_isLine post (qy_S d off th) (nI l) := by
  have := qj_ok_L hd
  exact br_f (nI_pos (by omega)) (br_f (nI_ge hl (by omega)) hp)
theorem qx_isStart_no {post : Int32 → Prop} {x : Int32} (h : x < 0 ∨ (¬ x < 0 ∧ nI 500 < x ∧ ¬ x ≤ nI 500)) (hp : post 0) : wpX_isStart post x := by
  rcases h with h0 | ⟨h0, h1, _⟩
  · exact br_t h0 hp
  · exact br_f h0 (br_t h1 hp)
theorem qx_isStart_yes {post : Int32 → Prop} {a : Nat} (ha : a ≤ 500) (hp : post 1) : wpX_isStart post (nI a) :=
  br_f (nI_pos (by omega)) (br_f (nI_nlt (a := 500) ha (by decide)) hp)
theorem qx_isTime_no {post : Int32 → Prop} {x : Int32} (h : x < 0 ∨ (¬ x < 0 ∧ nI 1000 < x ∧ ¬ x ≤ nI 1000)) (hp : post 0) : wpX_isTime post x := by
  rcases h with h0 | ⟨h0, h1, _⟩
  · exact br_t h0 hp
  · exact br_f h0 (br_t h1 hp)
theorem qx_isTime_yes {post : Int32 → Prop} {a : Nat} (ha : a ≤ 1000) (hp : post 1) : wpX_isTime post (nI a) :=
  br_f (nI_pos (by omega)) (br_f (nI_nlt (a := 1000) ha (by decide)) hp)
theorem qy_isTime_no {post : Int32 → Prop} {d : qj_D} {off th : Nat → Int32} {x : Int32} (h : x < 0 ∨ (¬ x < 0 ∧ nI 1000 < x ∧ ¬ x ≤ nI 1000)) (hp : post 0) : wpY_isTime post (qy_S d off th) x := by
  rcases h with h0 | ⟨h0, h1, _⟩
  · exact br_t h0 hp
  · exact br_f h0 (br_t h1 hp)
theorem qy_isTime_yes {post : Int32 → Prop} {d : qj_D} {off th : Nat → Int32} {a : Nat} (ha : a ≤ 1000) (hp : post 1) : wpY_isTime post (qy_S d off th) (nI a) :=
  br_f (nI_pos (by omega)) (br_f (nI_nlt (a := 1000) ha (by decide)) hp)
def qj_un (f : Nat → Nat) (k x : Nat) : Nat → Nat := fun j => if j = k then x else f j
theorem qj_un_s {f : Nat → Nat} {k x : Nat} : qj_un f k x k = x := if_pos rfl
theorem qj_un_n {f : Nat → Nat} {k x j : Nat} (h : j ≠ k) : qj_un f k x j = f j := if_neg h
theorem qj_un_nI (f : Nat → Nat) (k x : Nat) : upd (fun j => nI (f j)) k (nI x) = fun j => nI (qj_un f k x j) := by
  funext j
  by_cases e : j = k
  · subst e; rw [pk_us, qj_un_s]
  · rw [pk_un e, qj_un_n e]
theorem qj_un_all {f : Nat → Nat} {k x : Nat} {p : Nat → Prop} (h : ∀ j, p (f j)) (hx : p x) : ∀ j, p (qj_un f k x j) := by
  intro j
  by_cases e : j = k
  · rw [e, qj_un_s]; exact hx
  · rw [qj_un_n e]; exact h j
theorem i_up {k : Nat} {u : SX} {v : SY} (h : i_Rel k u v) : i_Rel (k + 5) u v := h
theorem i_vc0 : wpX_init (fun u => wpY_init (fun v => i_Rel 0 u v)) := by
  refine ⟨(0, 0, fun _ => 0, fun _ => 0, fun _ => 0, fun _ => 0, fun _ => 0, fun _ => 0), fun _ => 0, fun _ => 0, fun _ => 0, fun _ => 0, fun _ => 0, ?_, ?_, rfl, rfl⟩
  · exact ⟨by decide, by decide, fun _ => Nat.zero_le _, fun l hl => absurd hl (Nat.not_lt_zero l), fun _ => Nat.zero_lt_succ 7, fun _ _ _ _ => Nat.zero_le _, fun _ _ _ j _ hj => absurd hj (Nat.not_lt_zero j), fun _ => Nat.zero_lt_succ 4, fun m hm => absurd hm (Nat.not_lt_zero m), fun _ => Nat.zero_le _, fun _ => Nat.zero_le _⟩
  · refine ⟨fun _ => 0, fun l hl => ⟨rfl, Nat.zero_le _⟩, fun l hl => ⟨fun hh => absurd hh (Nat.lt_irrefl 0), ?_⟩⟩
    rintro ⟨m, hm, _⟩
    exact absurd hm (Nat.not_lt_zero m)
/-- a line more -/
def qj_lineD (d : qj_D) (s : Nat) : qj_D := (qj_L d + 1, qj_T d, qj_un (qj_len d) (qj_L d) 1, qj_un (qj_stp d) (qj_L d * 6) s, qj_un (qj_aft d) (qj_L d * 6) 0, qj_tl d, qj_st d, qj_wk d)
theorem qj_ok_line {d : qj_D} (hd : qj_ok d) {s : Nat} (hL : qj_L d < 5) (hs : s < 8) : qj_ok (qj_lineD d s) := by
  have hT := qj_ok_T hd
  have htl := qj_ok_tl hd
  have hst := qj_ok_st hd
  have hwk := qj_ok_wk hd
  refine ⟨hL, hT, qj_un_all (p := fun x => x ≤ 6) (qj_ok_len hd) (by decide), ?_, qj_un_all (p := fun x => x < 8) (qj_ok_stp hd) hs, ?_, ?_, htl, fun m hm => Nat.lt_succ_of_lt (qj_ok_tlL hd hm), hst, hwk⟩
  · intro l hl
    show 1 ≤ qj_un (qj_len d) (qj_L d) 1 l
    by_cases e : l = qj_L d
    · rw [e, qj_un_s]; exact Nat.le_refl 1
    · rw [qj_un_n e]
      have hl' : l < qj_L d + 1 := hl
      exact qj_ok_one hd (by omega)
  · intro l hl i hi
    show qj_un (qj_aft d) (qj_L d * 6) 0 (l * 6 + i) ≤ 30 * i
    have hi' : i < qj_un (qj_len d) (qj_L d) 1 l := hi
    by_cases e : l = qj_L d
    · rw [e, qj_un_s] at hi'
      have ei : i = 0 := by omega
      rw [e, ei, Nat.add_zero, qj_un_s]; exact Nat.zero_le _
    · rw [qj_un_n e] at hi'
      have := qj_ok_len hd l
      rw [qj_un_n (by omega)]
      exact qj_ok_aft hd hl hi'
  · intro l hl i j hij hj
    show qj_un (qj_aft d) (qj_L d * 6) 0 (l * 6 + i) < qj_un (qj_aft d) (qj_L d * 6) 0 (l * 6 + j)
    have hj' : j < qj_un (qj_len d) (qj_L d) 1 l := hj
    by_cases e : l = qj_L d
    · rw [e, qj_un_s] at hj'
      omega
    · rw [qj_un_n e] at hj'
      have := qj_ok_len hd l
      rw [qj_un_n (by omega), qj_un_n (by omega)]
      exact qj_ok_inc hd hl hij hj'
theorem qj_lt_line {d : qj_D} (hd : qj_ok d) {lt : Nat → Int32} {s : Nat} (hL : qj_L d < 5) (h : qj_lt d lt) : qj_lt (qj_lineD d s) (upd lt (qj_L d) 0) := by
  obtain ⟨c, h1, h2⟩ := h
  refine ⟨qj_un c (qj_L d) 0, ?_, ?_⟩
  · intro l hl
    by_cases e : l = qj_L d
    · subst e; rw [pk_us, qj_un_s]; exact ⟨rfl, Nat.zero_le _⟩
    · rw [pk_un e, qj_un_n e]; exact h1 l hl
  · intro l hl
    by_cases e : l = qj_L d
    · subst e; rw [qj_un_s]
      refine ⟨fun hh => absurd hh (Nat.lt_irrefl 0), ?_⟩
      rintro ⟨m, hm, h3⟩
      have h4 : qj_tl d m = qj_L d := h3
      have := qj_ok_tlL hd hm
      omega
    · rw [qj_un_n e]; exact h2 l hl
theorem i_vc_line {k : Nat} {u : SX} {v : SY} (I : i_Rel k u v) (hk : k + 5 ≤ 2560) (v1 : Int32) : wpX_line (fun r u' => wpY_line (fun r' v' => r' = r ∧ i_Rel (k + 5) u' v') v v1) u v1 := by
  obtain ⟨d, lt, off, rch, off', th, hd, hlt, rfl, rfl⟩ := I
  unfold wpX_line qx_S
  dsimp only
  rcases qj_ix v1 8 (by decide) with hb | ⟨s, hs, rfl⟩
  · refine qx_isStop_no hb ?_
    refine br_t rfl ?_
    unfold wpY_line qy_S
    dsimp only
    refine qy_isStop_no hb ?_
    exact br_t rfl ⟨rfl, qj_rel hd hlt⟩
  · have hL := qj_ok_L hd
    refine qx_isStop_yes hs ?_
    refine br_f qj_10 ?_
    by_cases h5 : qj_L d = 5
    · refine br_f (by rw [h5]; decide) ?_
      unfold wpY_line qy_S
      dsimp only
      refine qy_isStop_yes hs ?_
      exact br_f qj_10 (br_t (by rw [h5]; rfl) ⟨rfl, qj_rel hd hlt⟩)
    · have hL5 : qj_L d < 5 := by omega
      have e6 : vp_in (nI (qj_L d) * 6) 30 := pk_in (qj_L d * 6) 30 (by omega) (qj_x6 _)
      have e5 : vp_in (nI (qj_L d)) 5 := pk_in (qj_L d) 5 hL5
      have eS : upd (qa_stp d) (nI (qj_L d) * 6).toNatClampNeg (nI s) = qa_stp (qj_lineD d s) := by rw [qj_x6, nI_clamp (by omega)]; exact qj_un_nI _ _ _
      have eA : upd (qa_aft d) (nI (qj_L d) * 6).toNatClampNeg 0 = qa_aft (qj_lineD d s) := by rw [qj_x6, nI_clamp (by omega)]; exact qj_un_nI _ _ _
      have eN : upd (qa_len d) (nI (qj_L d)).toNatClampNeg 1 = qa_len (qj_lineD d s) := by rw [nI_clamp (by omega)]; exact qj_un_nI _ _ _
      have eT : upd lt (nI (qj_L d)).toNatClampNeg 0 = upd lt (qj_L d) 0 := by rw [nI_clamp (by omega)]
      refine br_t (nI_lt (b := 5) hL5 (by decide)) ⟨e6, nm_r eS ⟨e6, nm_r eA ⟨e5, nm_r eN ⟨e5, nm_r eT (nm_r (nI_1 _) ?_)⟩⟩⟩⟩
      unfold wpY_line qy_S
      dsimp only
      refine qy_isStop_yes hs ?_
      refine br_f qj_10 ?_
      refine br_f ?_ ⟨e6, nm_r eS ⟨e6, nm_r eA ⟨e5, nm_r eN (nm_r (nI_1 _) ⟨nI_pred _, qj_rel (qj_ok_line hd hL5 hs) (qj_lt_line hd hL5 hlt)⟩)⟩⟩⟩
      exact fun hh => h5 ((nI_eq (b := 5) (by omega) (by decide)).mp hh)
end
section
/-- a trip more -/
def qj_tripD (d : qj_D) (l t : Nat) : qj_D := (qj_L d, qj_T d + 1, qj_len d, qj_stp d, qj_aft d, qj_un (qj_tl d) (qj_T d) l, qj_un (qj_st d) (qj_T d) t, qj_wk d)
theorem qj_ok_trip {d : qj_D} (hd : qj_ok d) {l t : Nat} (hT : qj_T d < 12) (hl : l < qj_L d) (ht : t ≤ 500) : qj_ok (qj_tripD d l t) := by
  have hL := qj_ok_L hd
  have h3 := qj_ok_len hd
  have h4 := hd.2.2.2.1
  have h5 := qj_ok_stp hd
  have h6 := hd.2.2.2.2.2.1
  have h7 := hd.2.2.2.2.2.2.1
  have hwk := qj_ok_wk hd
  refine ⟨hL, hT, h3, h4, h5, h6, h7, qj_un_all (p := fun x => x < 5) (qj_ok_tl hd) (by omega), ?_, qj_un_all (p := fun x => x ≤ 500) (qj_ok_st hd) ht, hwk⟩
  intro m hm
  show qj_un (qj_tl d) (qj_T d) l m < qj_L d
  have hm' : m < qj_T d + 1 := hm
  by_cases e : m = qj_T d
  · rw [e, qj_un_s]; exact hl
  · rw [qj_un_n e]; exact qj_ok_tlL hd (by omega)
theorem qj_lt_trip {d : qj_D} {lt : Nat → Int32} {l t : Nat} (hl : l < 5) {c : Nat → Nat} (h1 : ∀ l, l < 5 → lt l = nI (c l) ∧ c l ≤ qj_T d) (h2 : ∀ l, l < 5 → (0 < c l ↔ ∃ m, m < qj_T d ∧ qj_tl d m = l)) : qj_lt (qj_tripD d l t) (upd lt l (nI (c l + 1))) := by
  refine ⟨qj_un c l (c l + 1), ?_, ?_⟩
  · intro l' hl'
    show upd lt l (nI (c l + 1)) l' = nI (qj_un c l (c l + 1) l') ∧ qj_un c l (c l + 1) l' ≤ qj_T d + 1
    have := (h1 l' hl').2
    by_cases e : l' = l
    · subst e; rw [pk_us, qj_un_s]; exact ⟨rfl, by omega⟩
    · rw [pk_un e, qj_un_n e]; exact ⟨(h1 l' hl').1, by omega⟩
  · intro l' hl'
    show 0 < qj_un c l (c l + 1) l' ↔ ∃ m, m < qj_T d + 1 ∧ qj_un (qj_tl d) (qj_T d) l m = l'
    by_cases e : l' = l
    · subst e; rw [qj_un_s]
      exact ⟨fun _ => ⟨qj_T d, by omega, qj_un_s⟩, fun _ => by omega⟩
    · rw [qj_un_n e, h2 l' hl']
      constructor
      · rintro ⟨m, hm, h3⟩
        exact ⟨m, by omega, by rw [qj_un_n (by omega)]; exact h3⟩
      · rintro ⟨m, hm, h3⟩
        by_cases em : m = qj_T d
        · rw [em, qj_un_s] at h3
          exact absurd h3.symm e
        · rw [qj_un_n em] at h3
          exact ⟨m, by omega, h3⟩
theorem i_vc_trip {k : Nat} {u : SX} {v : SY} (I : i_Rel k u v) (hk : k + 5 ≤ 2560) (v1 : Int32) (v2 : Int32) : wpX_trip (fun r u' => wpY_trip (fun r' v' => r' = r ∧ i_Rel (k + 5) u' v') v v1 v2) u v1 v2 := by
  obtain ⟨d, lt, off, rch, off', th, hd, hlt, rfl, rfl⟩ := I
  have hL := qj_ok_L hd
  have hT := qj_ok_T hd
  unfold wpX_trip qx_S
  dsimp only
  rcases qj_ix v1 (qj_L d) (by omega) with hb | ⟨l, hl, rfl⟩
  · refine qx_isLine_no hb ?_
    refine br_t rfl ?_
    unfold wpY_trip qy_S
    dsimp only
    refine qy_isLine_no hb ?_
    exact br_t rfl ⟨rfl, qj_rel hd hlt⟩
  · refine qx_isLine_yes hd hl ?_
    refine br_f qj_10 ?_
    rcases qj_rng v2 500 (by decide) with h0 | ⟨h0, h1, h1'⟩ | ⟨t, ht, rfl⟩
    · refine qx_isStart_no (Or.inl h0) ?_
      refine br_t rfl ?_
      unfold wpY_trip qy_S
      dsimp only
      refine qy_isLine_yes hd hl ?_
      exact br_f qj_10 (br_t h0 ⟨rfl, qj_rel hd hlt⟩)
    · refine qx_isStart_no (Or.inr ⟨h0, h1, h1'⟩) ?_
      refine br_t rfl ?_
      unfold wpY_trip qy_S
      dsimp only
      refine qy_isLine_yes hd hl ?_
      exact br_f qj_10 (br_f h0 (br_f h1' ⟨rfl, qj_rel hd hlt⟩))
    · refine qx_isStart_yes ht ?_
      refine br_f qj_10 ?_
      by_cases h12 : qj_T d = 12
      · refine br_f (by rw [h12]; decide) ?_
        unfold wpY_trip qy_S
        dsimp only
        refine qy_isLine_yes hd hl ?_
        exact br_f qj_10 (br_f (nI_pos (by omega)) (br_t (nI_le (b := 500) ht (by decide)) (br_t (by rw [h12]; rfl) ⟨rfl, qj_rel hd hlt⟩)))
      · have hT12 : qj_T d < 12 := by omega
        obtain ⟨c, h1, h2⟩ := hlt
        have eT : vp_in (nI (qj_T d)) 12 := pk_in (qj_T d) 12 hT12
        have el : vp_in (nI l) 5 := pk_in l 5 (by omega)
        have e1 : upd (qa_tl d) (nI (qj_T d)).toNatClampNeg (nI l) = qa_tl (qj_tripD d l t) := by rw [nI_clamp (by omega)]; exact qj_un_nI _ _ _
        have e2 : upd (qa_st d) (nI (qj_T d)).toNatClampNeg (nI t) = qa_st (qj_tripD d l t) := by rw [nI_clamp (by omega)]; exact qj_un_nI _ _ _
        have e3 : upd lt (nI l).toNatClampNeg (lt (nI l).toNatClampNeg + 1) = upd lt l (nI (c l + 1)) := by rw [nI_clamp (by omega), (h1 l (by omega)).1, nI_1]
        refine br_t (nI_lt (b := 12) hT12 (by decide)) ⟨eT, nm_r e1 ⟨eT, nm_r e2 ⟨el, el, nm_r e3 (nm_r (nI_1 _) ?_)⟩⟩⟩
        unfold wpY_trip qy_S
        dsimp only
        refine qy_isLine_yes hd hl ?_
        refine br_f qj_10 (br_f (nI_pos (by omega)) (br_t (nI_le (b := 500) ht (by decide)) (br_f ?_ ⟨eT, nm_r e1 ⟨eT, nm_r e2 (nm_r (nI_1 _) ⟨nI_pred _, qj_rel (qj_ok_trip hd hT12 hl ht) (qj_lt_trip (by omega) h1 h2)⟩)⟩⟩)))
        exact fun hh => h12 ((nI_eq (b := 12) (by omega) (by decide)).mp hh)
/-- another footpath -/
def qj_footD (d : qj_D) (a b m : Nat) : qj_D := (qj_L d, qj_T d, qj_len d, qj_stp d, qj_aft d, qj_tl d, qj_st d, qj_un (qj_un (qj_wk d) (a * 8 + b) m) (b * 8 + a) m)
theorem qj_ok_foot {d : qj_D} (hd : qj_ok d) {a b m : Nat} (hm : m ≤ 30) : qj_ok (qj_footD d a b m) := by
  obtain ⟨h1, h2, h3, h4, h5, h6, h7, h8, h9, h10, h11⟩ := hd
  exact ⟨h1, h2, h3, h4, h5, h6, h7, h8, h9, h10, qj_un_all (p := fun x => x ≤ 30) (qj_un_all (p := fun x => x ≤ 30) h11 hm) hm⟩
theorem i_vc_footpath {k : Nat} {u : SX} {v : SY} (I : i_Rel k u v) (hk : k + 5 ≤ 2560) (v1 : Int32) (v2 : Int32) (v3 : Int32) : wpX_footpath (fun r u' => wpY_footpath (fun r' v' => r' = r ∧ i_Rel (k + 5) u' v') v v1 v2 v3) u v1 v2 v3 := by
  obtain ⟨d, lt, off, rch, off', th, hd, hlt, rfl, rfl⟩ := I
  unfold wpX_footpath qx_S
  dsimp only
  rcases qj_ix v1 8 (by decide) with hb | ⟨a, ha, rfl⟩
  · refine qx_isStop_no hb ?_
    refine br_t rfl ?_
    unfold wpY_footpath qy_S
    dsimp only
    refine qy_isStop_no hb ?_
    exact br_t rfl ⟨rfl, qj_rel hd hlt⟩
  refine qx_isStop_yes ha ?_
  refine br_f qj_10 ?_
  rcases qj_ix v2 8 (by decide) with hb | ⟨b, hb, rfl⟩
  · refine qx_isStop_no hb ?_
    refine br_t rfl ?_
    unfold wpY_footpath qy_S
    dsimp only
    refine qy_isStop_yes ha ?_
    refine br_f qj_10 ?_
    refine qy_isStop_no hb ?_
    exact br_t rfl ⟨rfl, qj_rel hd hlt⟩
  refine qx_isStop_yes hb ?_
  refine br_f qj_10 ?_
  unfold wpY_footpath qy_S
  dsimp only
  by_cases hab : nI a = nI b
  · refine br_t hab ?_
    refine qy_isStop_yes ha ?_
    refine br_f qj_10 ?_
    refine qy_isStop_yes hb ?_
    exact br_f qj_10 (br_t hab ⟨rfl, qj_rel hd hlt⟩)
  refine br_f hab ?_
  rcases qj_rng v3 30 (by decide) with h0 | ⟨h0, h1, h1'⟩ | ⟨m, hm, rfl⟩
  · refine br_t h0 ?_
    refine qy_isStop_yes ha ?_
    refine br_f qj_10 ?_
    refine qy_isStop_yes hb ?_
    exact br_f qj_10 (br_f hab (br_t h0 ⟨rfl, qj_rel hd hlt⟩))
  · refine br_f h0 (br_f h1' ?_)
    refine qy_isStop_yes ha ?_
    refine br_f qj_10 ?_
    refine qy_isStop_yes hb ?_
    exact br_f qj_10 (br_f hab (br_f h0 (br_f h1' ⟨rfl, qj_rel hd hlt⟩)))
  · have e1 : vp_in (nI a * 8 + nI b) 64 := pk_in (a * 8 + b) 64 (by omega) (qj_ix8 a b)
    have e2 : vp_in (nI b * 8 + nI a) 64 := pk_in (b * 8 + a) 64 (by omega) (qj_ix8 b a)
    have e3 : upd (qa_wk d) (nI a * 8 + nI b).toNatClampNeg (nI m) = fun j => nI (qj_un (qj_wk d) (a * 8 + b) m j) := by rw [qj_ix8, nI_clamp (by omega)]; exact qj_un_nI _ _ _
    have e4 : upd (fun j => nI (qj_un (qj_wk d) (a * 8 + b) m j)) (nI b * 8 + nI a).toNatClampNeg (nI m) = qa_wk (qj_footD d a b m) := by rw [qj_ix8, nI_clamp (by omega)]; exact qj_un_nI _ _ _
    refine br_f (nI_pos (by omega)) (br_t (nI_le (b := 30) hm (by decide)) ⟨e1, nm_e ⟨e1, nm_r e3 ⟨e2, nm_r e4 ?_⟩⟩⟩)
    refine qy_isStop_yes ha ?_
    refine br_f qj_10 ?_
    refine qy_isStop_yes hb ?_
    exact br_f qj_10 (br_f hab (br_f (nI_pos (by omega)) (br_t (nI_le (b := 30) hm (by decide)) ⟨e1, nm_e ⟨e1, nm_r e3 ⟨e2, nm_r e4 ⟨rfl, qj_rel (qj_ok_foot hd hm) hlt⟩⟩⟩⟩)))
/-- a trip moved -/
def qj_delD (d : qj_D) (m t : Nat) : qj_D := (qj_L d, qj_T d, qj_len d, qj_stp d, qj_aft d, qj_tl d, qj_un (qj_st d) m t, qj_wk d)
theorem qj_ok_del {d : qj_D} (hd : qj_ok d) {m t : Nat} (ht : t ≤ 500) : qj_ok (qj_delD d m t) := by
  obtain ⟨h1, h2, h3, h4, h5, h6, h7, h8, h9, h10, h11⟩ := hd
  exact ⟨h1, h2, h3, h4, h5, h6, h7, h8, h9, qj_un_all (p := fun x => x ≤ 500) h10 ht, h11⟩
theorem i_vc_delay {k : Nat} {u : SX} {v : SY} (I : i_Rel k u v) (hk : k + 5 ≤ 2560) (v1 : Int32) (v2 : Int32) : wpX_delay (fun r u' => wpY_delay (fun r' v' => r' = r ∧ i_Rel (k + 5) u' v') v v1 v2) u v1 v2 := by
  obtain ⟨d, lt, off, rch, off', th, hd, hlt, rfl, rfl⟩ := I
  have hT := qj_ok_T hd
  unfold wpX_delay qx_S
  dsimp only
  unfold wpY_delay qy_S
  dsimp only
  rcases qj_ix v1 (qj_T d) (by omega) with (h0 | ⟨h0, h1⟩) | ⟨m, hm, rfl⟩
  · exact br_t h0 (br_t h0 ⟨rfl, qj_rel hd hlt⟩)
  · have h2 : ¬ v1 < nI (qj_T d) := Int32.not_lt.mpr h1
    exact br_f h0 (br_f h2 (br_f h0 (br_f h2 ⟨rfl, qj_rel hd hlt⟩)))
  · have h0 : ¬ nI m < 0 := nI_pos (by omega)
    have h1 : nI m < nI (qj_T d) := nI_lt hm (by omega)
    refine br_f h0 (br_t h1 ?_)
    rcases qj_rng v2 500 (by decide) with g0 | ⟨g0, g1, g1'⟩ | ⟨t, ht, rfl⟩
    · refine qx_isStart_no (Or.inl g0) ?_
      exact br_t rfl (br_f h0 (br_t h1 (br_t g0 ⟨rfl, qj_rel hd hlt⟩)))
    · refine qx_isStart_no (Or.inr ⟨g0, g1, g1'⟩) ?_
      exact br_t rfl (br_f h0 (br_t h1 (br_f g0 (br_f g1' ⟨rfl, qj_rel hd hlt⟩))))
    · have em : vp_in (nI m) 12 := pk_in m 12 (by omega)
      have e1 : upd (qa_st d) (nI m).toNatClampNeg (nI t) = qa_st (qj_delD d m t) := by rw [nI_clamp (by omega)]; exact qj_un_nI _ _ _
      refine qx_isStart_yes ht ?_
      exact br_f qj_10 ⟨em, nm_e ⟨em, nm_r e1 (br_f h0 (br_t h1 (br_f (nI_pos (by omega)) (br_t (nI_le (b := 500) ht (by decide)) ⟨em, nm_e ⟨em, nm_r e1 ⟨rfl, qj_rel (qj_ok_del hd ht) hlt⟩⟩⟩))))⟩⟩
end
section
/-- stop s is on line l -/
def qj_on (d : qj_D) (l s : Nat) : Prop := ∃ i, i < qj_len d l ∧ qj_stp d (l * 6 + i) = s
/-- line l has a trip -/
def qj_has (d : qj_D) (l : Nat) : Prop := ∃ m, m < qj_T d ∧ qj_tl d m = l
theorem qx_on16 (post : Int32 → Prop) {d : qj_D} (hd : qj_ok d) (lt off rch : Nat → Int32) {l s : Nat} (hl : l < 5) (hs : s < 8) (hy : qj_on d l s → post 1) (hn : ¬ qj_on d l s → post 0) :
    ∀ e i, i + e = qj_len d l → (∀ j, j < i → qj_stp d (l * 6 + j) ≠ s) → wX_isOnLine_16 post (nI s) (nI (l * 6)) (nI (qj_len d l)) (nI (qj_L d)) (nI (qj_T d)) (qa_stp d) (qa_aft d) (qa_len d) lt (qa_tl d) (qa_st d) (qa_wk d) off rch (e + 1) (nI i) := by
  have hlen := qj_ok_len hd l
  intro e
  induction e with
  | zero =>
    intro i hi hj
    refine br_t (nI_le (by omega) (by omega)) (hn ?_)
    rintro ⟨j, h1, h2⟩
    exact hj j (by omega) h2
  | succ e ih =>
    intro i hi hj
    have hS := qj_ok_stp hd (l * 6 + i)
    have eix : nI (l * 6) + nI i = nI (l * 6 + i) := nI_add _ _
    have eS : qa_stp d (nI (l * 6) + nI i).toNatClampNeg = nI (qj_stp d (l * 6 + i)) := by rw [eix, nI_clamp (by omega)]; exact rfl
    refine br_f (nI_ge (by omega) (by omega)) ⟨pk_in (l * 6 + i) 30 (by omega) eix, pk_eq (qj_stp d (l * 6 + i)) s (fun he => hy ⟨i, by omega, he⟩) (fun he => nm_r (nI_1 i) (ih (i + 1) (by omega) ?_)) eS⟩
    intro j hj'
    by_cases e : j = i
    · rw [e]; exact he
    · exact hj j (by omega)
theorem qx_isOnLine (post : Int32 → Prop) {d : qj_D} (hd : qj_ok d) (lt off rch : Nat → Int32) {l s : Nat} (hl : l < 5) (hs : s < 8) (hy : qj_on d l s → post 1) (hn : ¬ qj_on d l s → post 0) : wpX_isOnLine post (qx_S d lt off rch) (nI l) (nI s) :=
  nm_r (qj_x6 l) ⟨pk_in l 5 hl, nm_r (e' := nI (qj_len d l)) (by rw [nI_clamp (by omega)]; exact rfl) ⟨qj_len d l + 1, qx_on16 post hd lt off rch hl hs hy hn (qj_len d l) 0 (by omega) (fun j hj => absurd hj (by omega))⟩⟩
theorem qy_on2 (post : Int32 → Prop) {d : qj_D} (hd : qj_ok d) (off th : Nat → Int32) {l s : Nat} (hl : l < 5) (hs : s < 8) (hy : qj_on d l s → post 1) (hn : ¬ qj_on d l s → post 0) :
    ∀ e i, i + e = qj_len d l → (∀ j, j < i → qj_stp d (l * 6 + j) ≠ s) → wY_onLine_2 post (nI l) (nI s) (nI (qj_L d)) (nI (qj_T d)) (qa_len d) (qa_stp d) (qa_aft d) (qa_tl d) (qa_st d) (qa_wk d) off th (e + 1) (nI i) := by
  have hlen := qj_ok_len hd l
  have elen : qa_len d (nI l).toNatClampNeg = nI (qj_len d l) := by rw [nI_clamp (by omega)]; exact rfl
  intro e
  induction e with
  | zero =>
    intro i hi hj
    refine ⟨pk_in l 5 hl, br_t (by rw [elen]; exact nI_le (by omega) (by omega)) (hn ?_)⟩
    rintro ⟨j, h1, h2⟩
    exact hj j (by omega) h2
  | succ e ih =>
    intro i hi hj
    have hS := qj_ok_stp hd (l * 6 + i)
    have eS : qa_stp d (nI l * 6 + nI i).toNatClampNeg = nI (qj_stp d (l * 6 + i)) := by rw [qj_ix6, nI_clamp (by omega)]; exact rfl
    refine ⟨pk_in l 5 hl, br_f (by rw [elen]; exact nI_ge (by omega) (by omega)) ⟨pk_in (l * 6 + i) 30 (by omega) (qj_ix6 l i), pk_eq (qj_stp d (l * 6 + i)) s (fun he => hy ⟨i, by omega, he⟩) (fun he => nm_r (nI_1 i) (ih (i + 1) (by omega) ?_)) eS⟩⟩
    intro j hj'
    by_cases e : j = i
    · rw [e]; exact he
    · exact hj j (by omega)
theorem qy_onLine (post : Int32 → Prop) {d : qj_D} (hd : qj_ok d) (off th : Nat → Int32) {l s : Nat} (hl : l < 5) (hs : s < 8) (hy : qj_on d l s → post 1) (hn : ¬ qj_on d l s → post 0) : wpY_onLine post (qy_S d off th) (nI l) (nI s) :=
  ⟨qj_len d l + 1, qy_on2 post hd off th hl hs hy hn (qj_len d l) 0 (by omega) (fun j hj => absurd hj (by omega))⟩
theorem qy_has2 (post : Int32 → Prop) {d : qj_D} (hd : qj_ok d) (off th : Nat → Int32) {l : Nat} (hl : l < 5) (hy : qj_has d l → post 1) (hn : ¬ qj_has d l → post 0) :
    ∀ e i, i + e = qj_T d → (∀ j, j < i → qj_tl d j ≠ l) → wY_hasTrips_2 post (nI l) (nI (qj_L d)) (nI (qj_T d)) (qa_len d) (qa_stp d) (qa_aft d) (qa_tl d) (qa_st d) (qa_wk d) off th (e + 1) (nI i) := by
  have hT := qj_ok_T hd
  intro e
  induction e with
  | zero =>
    intro i hi hj
    refine br_t (nI_le (by omega) (by omega)) (hn ?_)
    rintro ⟨j, h1, h2⟩
    exact hj j (by omega) h2
  | succ e ih =>
    intro i hi hj
    have htl := qj_ok_tl hd i
    have e1 : qa_tl d (nI i).toNatClampNeg = nI (qj_tl d i) := by rw [nI_clamp (by omega)]; exact rfl
    refine br_f (nI_ge (by omega) (by omega)) ⟨pk_in i 12 (by omega), pk_eq (qj_tl d i) l (fun he => hy ⟨i, by omega, he⟩) (fun he => nm_r (nI_1 i) (ih (i + 1) (by omega) ?_)) e1⟩
    intro j hj'
    by_cases e : j = i
    · rw [e]; exact he
    · exact hj j (by omega)
theorem qy_hasTrips (post : Int32 → Prop) {d : qj_D} (hd : qj_ok d) (off th : Nat → Int32) {l : Nat} (hl : l < 5) (hy : qj_has d l → post 1) (hn : ¬ qj_has d l → post 0) : wpY_hasTrips post (qy_S d off th) (nI l) :=
  ⟨qj_T d + 1, qy_has2 post hd off th hl hy hn (qj_T d) 0 (by omega) (fun j hj => absurd hj (by omega))⟩
/-- a line extended -/
def qj_extD (d : qj_D) (l s m : Nat) : qj_D := (qj_L d, qj_T d, qj_un (qj_len d) l (qj_len d l + 1), qj_un (qj_stp d) (l * 6 + qj_len d l) s, qj_un (qj_aft d) (l * 6 + qj_len d l) (qj_aft d (l * 6 + qj_len d l - 1) + m), qj_tl d, qj_st d, qj_wk d)
theorem qj_ok_ext {d : qj_D} (hd : qj_ok d) {l s m : Nat} (hl : l < qj_L d) (hs : s < 8) (h6 : qj_len d l < 6) (h1 : 1 ≤ m) (hm : m ≤ 30) : qj_ok (qj_extD d l s m) := by
  have hL := qj_ok_L hd
  have hT := qj_ok_T hd
  have htl := qj_ok_tl hd
  have htL := hd.2.2.2.2.2.2.2.2.1
  have hst := qj_ok_st hd
  have hwk := qj_ok_wk hd
  have hone := qj_ok_one hd hl
  have hlast := qj_ok_aft hd (l := l) (by omega) (i := qj_len d l - 1) (by omega)
  have elast : l * 6 + qj_len d l - 1 = l * 6 + (qj_len d l - 1) := by omega
  refine ⟨hL, hT, qj_un_all (p := fun x => x ≤ 6) (qj_ok_len hd) h6, ?_, qj_un_all (p := fun x => x < 8) (qj_ok_stp hd) hs, ?_, ?_, htl, htL, hst, hwk⟩
  · intro l' hl'
    show 1 ≤ qj_un (qj_len d) l (qj_len d l + 1) l'
    by_cases e : l' = l
    · rw [e, qj_un_s]; omega
    · rw [qj_un_n e]; exact qj_ok_one hd hl'
  · intro l' hl' i hi
    show qj_un (qj_aft d) (l * 6 + qj_len d l) (qj_aft d (l * 6 + qj_len d l - 1) + m) (l' * 6 + i) ≤ 30 * i
    have hi' : i < qj_un (qj_len d) l (qj_len d l + 1) l' := hi
    by_cases e : l' = l
    · subst e
      rw [qj_un_s] at hi'
      by_cases ei : i = qj_len d l'
      · rw [ei, qj_un_s, elast]; omega
      · rw [qj_un_n (by omega)]
        exact qj_ok_aft hd hl' (by omega)
    · rw [qj_un_n e] at hi'
      have := qj_ok_len hd l'
      rw [qj_un_n (by omega)]
      exact qj_ok_aft hd hl' hi'
  · intro l' hl' i j hij hj
    show qj_un (qj_aft d) (l * 6 + qj_len d l) (qj_aft d (l * 6 + qj_len d l - 1) + m) (l' * 6 + i) < qj_un (qj_aft d) (l * 6 + qj_len d l) (qj_aft d (l * 6 + qj_len d l - 1) + m) (l' * 6 + j)
    have hj' : j < qj_un (qj_len d) l (qj_len d l + 1) l' := hj
    by_cases e : l' = l
    · subst e
      rw [qj_un_s] at hj'
      rw [qj_un_n (j := l' * 6 + i) (by omega)]
      by_cases ej : j = qj_len d l'
      · rw [ej, qj_un_s, elast]
        by_cases ei : i = qj_len d l' - 1
        · rw [ei]; omega
        · have := qj_ok_inc hd hl' (i := i) (j := qj_len d l' - 1) (by omega) (by omega)
          omega
      · rw [qj_un_n (by omega)]
        exact qj_ok_inc hd hl' hij (by omega)
    · rw [qj_un_n e] at hj'
      have := qj_ok_len hd l'
      rw [qj_un_n (by omega), qj_un_n (by omega)]
      exact qj_ok_inc hd hl' hij hj'
theorem i_vc_extend {k : Nat} {u : SX} {v : SY} (I : i_Rel k u v) (hk : k + 5 ≤ 2560) (v1 : Int32) (v2 : Int32) (v3 : Int32) : wpX_extend (fun r u' => wpY_extend (fun r' v' => r' = r ∧ i_Rel (k + 5) u' v') v v1 v2 v3) u v1 v2 v3 := by
  obtain ⟨d, lt, off, rch, off', th, hd, hlt, rfl, rfl⟩ := I
  have hL := qj_ok_L hd
  have hT := qj_ok_T hd
  unfold wpX_extend qx_S
  dsimp only
  unfold wpY_extend qy_S
  dsimp only
  rcases qj_ix v1 (qj_L d) (by omega) with hb | ⟨l, hl, rfl⟩
  · refine qx_isLine_no hb ?_
    refine br_t rfl ?_
    refine qy_isLine_no hb ?_
    exact br_t rfl ⟨rfl, qj_rel hd hlt⟩
  refine qx_isLine_yes hd hl ?_
  refine br_f qj_10 ?_
  rcases qj_ix v2 8 (by decide) with hb | ⟨s, hs, rfl⟩
  · refine qx_isStop_no hb ?_
    refine br_t rfl ?_
    refine qy_isLine_yes hd hl ?_
    refine br_f qj_10 ?_
    refine qy_isStop_no hb ?_
    exact br_t rfl ⟨rfl, qj_rel hd hlt⟩
  refine qx_isStop_yes hs ?_
  refine br_f qj_10 ?_
  refine qx_isOnLine _ hd lt off rch (by omega) hs (fun hon => ?_) (fun hon => ?_)
  · refine br_f qj_10 ?_
    refine qy_isLine_yes hd hl ?_
    refine br_f qj_10 ?_
    refine qy_isStop_yes hs ?_
    refine br_f qj_10 ?_
    refine qy_onLine _ hd off' th (by omega) hs (fun _ => ?_) (fun hn => absurd hon hn)
    exact br_f qj_10 ⟨rfl, qj_rel hd hlt⟩
  refine br_t rfl ?_
  have hY : ∀ {P : Int32 → Prop}, P 0 → wpY_onLine P (qy_S d off' th) (nI l) (nI s) := fun hp => qy_onLine _ hd off' th (by omega) hs (fun hh => absurd hh hon) (fun _ => hp)
  have hlen := qj_ok_len hd l
  have elen : qa_len d (nI l).toNatClampNeg = nI (qj_len d l) := by rw [nI_clamp (by omega)]; exact rfl
  have el : vp_in (nI l) 5 := pk_in l 5 (by omega)
  rcases qj_rng v3 30 (by decide) with h0 | ⟨h0, h1, h1'⟩ | ⟨m, hm, rfl⟩
  · have h1 : v3 < 1 := Int32.lt_trans h0 (by decide)
    refine br_t h1 ?_
    refine qy_isLine_yes hd hl ?_
    refine br_f qj_10 ?_
    refine qy_isStop_yes hs ?_
    refine br_f qj_10 ?_
    refine hY ?_
    exact br_t rfl (br_t h1 ⟨rfl, qj_rel hd hlt⟩)
  · have h2 : ¬ v3 < 1 := fun hh => absurd (Int32.lt_trans h1 hh) (by decide)
    refine br_f h2 (br_f h1' ?_)
    refine qy_isLine_yes hd hl ?_
    refine br_f qj_10 ?_
    refine qy_isStop_yes hs ?_
    refine br_f qj_10 ?_
    refine hY ?_
    exact br_t rfl (br_f h2 (br_f h1' ⟨rfl, qj_rel hd hlt⟩))
  by_cases hm0 : m = 0
  · have h1 : nI m < 1 := by rw [hm0]; decide
    refine br_t h1 ?_
    refine qy_isLine_yes hd hl ?_
    refine br_f qj_10 ?_
    refine qy_isStop_yes hs ?_
    refine br_f qj_10 ?_
    refine hY ?_
    exact br_t rfl (br_t h1 ⟨rfl, qj_rel hd hlt⟩)
  have hm1 : ¬ nI m < 1 := nI_nlt (b := 1) (by omega) (by omega)
  have hm30 : nI m ≤ 30 := nI_le (b := 30) hm (by decide)
  refine br_f hm1 (br_t hm30 ⟨el, ?_⟩)
  by_cases h6 : qj_len d l = 6
  · refine br_t (by rw [elen, h6]; decide) ?_
    refine qy_isLine_yes hd hl ?_
    refine br_f qj_10 ?_
    refine qy_isStop_yes hs ?_
    refine br_f qj_10 ?_
    refine hY ?_
    exact br_t rfl (br_f hm1 (br_t hm30 ⟨el, br_t (by rw [elen, h6]; rfl) ⟨rfl, qj_rel hd hlt⟩⟩))
  have hn6 : ¬ (6 : Int32) ≤ qa_len d (nI l).toNatClampNeg := by rw [elen]; exact nI_ge (b := 6) (by omega) (by decide)
  have hn6' : ¬ qa_len d (nI l).toNatClampNeg = 6 := by
    rw [elen]
    exact fun hh => h6 ((nI_eq (b := 6) (by omega) (by decide)).mp hh)
  refine br_f hn6 ⟨el, ?_⟩
  obtain ⟨c, hc1, hc2⟩ := hlt
  have hcl := (hc1 l (by omega)).2
  have ec : lt (nI l).toNatClampNeg = nI (c l) := by rw [nI_clamp (by omega)]; exact (hc1 l (by omega)).1
  by_cases hhas : qj_has d l
  · have hc0 : 0 < c l := (hc2 l (by omega)).mpr hhas
    refine br_f (by rw [ec]; exact nI_nle hc0 (by omega)) ?_
    refine qy_isLine_yes hd hl ?_
    refine br_f qj_10 ?_
    refine qy_isStop_yes hs ?_
    refine br_f qj_10 ?_
    refine hY ?_
    refine br_t rfl (br_f hm1 (br_t hm30 ⟨el, br_f hn6' ?_⟩))
    refine qy_hasTrips _ hd off' th (by omega) (fun _ => ?_) (fun hn => absurd hhas hn)
    exact br_f qj_10 ⟨rfl, qj_rel hd ⟨c, hc1, hc2⟩⟩
  have hc0 : c l = 0 := by
    by_cases e : c l = 0
    · exact e
    · exact absurd ((hc2 l (by omega)).mp (by omega)) hhas
  have hone := qj_ok_one hd hl
  have hlast := qj_ok_aft hd (l := l) (by omega) (i := qj_len d l - 1) (by omega)
  have ex : nI l * 6 + qa_len d (nI l).toNatClampNeg = nI (l * 6 + qj_len d l) := by rw [elen, qj_ix6]
  have ex1 : nI (l * 6 + qj_len d l) - 1 = nI (l * 6 + qj_len d l - 1) := by
    have e : l * 6 + qj_len d l = l * 6 + qj_len d l - 1 + 1 := by omega
    rw [e, nI_pred]; exact rfl
  have ep : vp_in (nI (l * 6 + qj_len d l)) 30 := pk_in (l * 6 + qj_len d l) 30 (by omega)
  have ep1 : vp_in (nI (l * 6 + qj_len d l) - 1) 30 := pk_in (l * 6 + qj_len d l - 1) 30 (by omega) ex1
  have eS : upd (qa_stp d) (nI (l * 6 + qj_len d l)).toNatClampNeg (nI s) = qa_stp (qj_extD d l s m) := by rw [nI_clamp (by omega)]; exact qj_un_nI _ _ _
  have eA0 : qa_aft d (nI (l * 6 + qj_len d l) - 1).toNatClampNeg + nI m = nI (qj_aft d (l * 6 + qj_len d l - 1) + m) := by rw [ex1, nI_clamp (by omega)]; exact nI_add _ _
  have eA : upd (qa_aft d) (nI (l * 6 + qj_len d l)).toNatClampNeg (qa_aft d (nI (l * 6 + qj_len d l) - 1).toNatClampNeg + nI m) = qa_aft (qj_extD d l s m) := by rw [eA0, nI_clamp (by omega)]; exact qj_un_nI _ _ _
  have eN : upd (qa_len d) (nI l).toNatClampNeg (qa_len d (nI l).toNatClampNeg + 1) = qa_len (qj_extD d l s m) := by rw [elen, nI_1, nI_clamp (by omega)]; exact qj_un_nI _ _ _
  have hd' : qj_ok (qj_extD d l s m) := qj_ok_ext hd hl hs (by omega) (by omega) hm
  have hlt' : qj_lt (qj_extD d l s m) lt := ⟨c, hc1, hc2⟩
  refine br_t (by rw [ec, hc0]; decide) ⟨el, nm_r ex ⟨ep, nm_r eS ⟨ep1, ep, nm_r eA ⟨el, el, nm_r eN ⟨el, ?_⟩⟩⟩⟩⟩
  refine qy_isLine_yes hd hl ?_
  refine br_f qj_10 ?_
  refine qy_isStop_yes hs ?_
  refine br_f qj_10 ?_
  refine hY ?_
  refine br_t rfl (br_f hm1 (br_t hm30 ⟨el, br_f hn6' ?_⟩))
  refine qy_hasTrips _ hd off' th (by omega) (fun hh => absurd hh hhas) (fun _ => ?_)
  exact br_t rfl ⟨el, nm_r ex ⟨ep, nm_r eS ⟨ep1, ep, nm_r eA ⟨el, el, nm_r eN ⟨el, rfl, qj_rel hd' hlt'⟩⟩⟩⟩⟩
end
section
theorem qx_fault_ok {post : Int32 → Prop} {a b t : Nat} (ha : a < 8) (hb : b < 8) (ht : t ≤ 1000) (hp : post 0) : wpX_faultOf post (nI a) (nI b) (nI t) := by
  unfold wpX_faultOf
  refine qx_isStop_yes ha ?_
  refine br_f qj_10 ?_
  refine qx_isStop_yes hb ?_
  refine br_f qj_10 ?_
  refine qx_isTime_yes ht ?_
  exact br_f qj_10 hp
theorem qy_fault_ok {post : Int32 → Prop} {d : qj_D} {off th : Nat → Int32} {a b t : Nat} (ha : a < 8) (hb : b < 8) (ht : t ≤ 1000) (hp : post 0) : wpY_refusal post (qy_S d off th) (nI a) (nI b) (nI t) := by
  unfold wpY_refusal qy_S
  dsimp only
  refine qy_isStop_yes ha ?_
  refine br_f qj_10 ?_
  refine qy_isStop_yes hb ?_
  refine br_f qj_10 ?_
  refine qy_isTime_yes ht ?_
  exact br_f qj_10 hp
/-- the arguments of a question: both sides refuse them with one answer, or they are stops and a time -/
theorem qj_fault (p0 p1 p2 : Int32) : (∃ f : Int32, ¬ f = 0 ∧ ¬ 0 ≤ f ∧ (∀ post : Int32 → Prop, post f → wpX_faultOf post p0 p1 p2) ∧ (∀ (post : Int32 → Prop) (d : qj_D) (off th : Nat → Int32), post f → wpY_refusal post (qy_S d off th) p0 p1 p2)) ∨
    ∃ a b t : Nat, a < 8 ∧ b < 8 ∧ t ≤ 1000 ∧ p0 = nI a ∧ p1 = nI b ∧ p2 = nI t := by
  rcases qj_ix p0 8 (by decide) with h | ⟨a, ha, rfl⟩
  · refine Or.inl ⟨-1, by decide, by decide, fun post hp => ?_, fun post d off th hp => ?_⟩
    · unfold wpX_faultOf
      refine qx_isStop_no h ?_
      exact br_t rfl hp
    · unfold wpY_refusal qy_S
      dsimp only
      refine qy_isStop_no h ?_
      exact br_t rfl hp
  rcases qj_ix p1 8 (by decide) with h | ⟨b, hb, rfl⟩
  · refine Or.inl ⟨-1, by decide, by decide, fun post hp => ?_, fun post d off th hp => ?_⟩
    · unfold wpX_faultOf
      refine qx_isStop_yes ha ?_
      refine br_f qj_10 ?_
      refine qx_isStop_no h ?_
      exact br_t rfl hp
    · unfold wpY_refusal qy_S
      dsimp only
      refine qy_isStop_yes ha ?_
      refine br_f qj_10 ?_
      refine qy_isStop_no h ?_
      exact br_t rfl hp
  have hbad : (p2 < 0 ∨ (¬ p2 < 0 ∧ nI 1000 < p2 ∧ ¬ p2 ≤ nI 1000)) ∨ ∃ t : Nat, t ≤ 1000 ∧ p2 = nI t := or_assoc.mpr (qj_rng p2 1000 (by decide))
  rcases hbad with h | ⟨t, ht, rfl⟩
  · refine Or.inl ⟨-3, by decide, by decide, fun post hp => ?_, fun post d off th hp => ?_⟩
    · unfold wpX_faultOf
      refine qx_isStop_yes ha ?_
      refine br_f qj_10 ?_
      refine qx_isStop_yes hb ?_
      refine br_f qj_10 ?_
      refine qx_isTime_no h ?_
      exact br_t rfl hp
    · unfold wpY_refusal qy_S
      dsimp only
      refine qy_isStop_yes ha ?_
      refine br_f qj_10 ?_
      refine qy_isStop_yes hb ?_
      refine br_f qj_10 ?_
      refine qy_isTime_no h ?_
      exact br_t rfl hp
  exact Or.inr ⟨a, b, t, ha, hb, ht, rfl, rfl, rfl⟩
theorem qx_val {d : qj_D} {a t K b : Nat} (hb : b < 8) {off rch : Nat → Int32} (h : qx_At d a t K off rch) : ∃ x, rch (nI b).toNatClampNeg = nI x ∧ qj_Is 1000000 (qj_H d (qj_C d a t K) b) x := by
  obtain ⟨o, r, ho, hr⟩ := h
  exact ⟨r b, by rw [nI_clamp (by omega)]; exact (hr b hb).1, (hr b hb).2⟩
theorem qx_ew (post : Int32 → SX → Prop) {d : qj_D} {a t K b : Nat} (hb : b < 8) (lt off rch : Nat → Int32) (z : Int32)
    (hs : ∀ post' : SX → Prop, (∀ off' rch', qx_At d a t K off' rch' → post' (qx_S d lt off' rch')) → wpX_search post' (qx_S d lt off rch) (nI a) (nI t) z)
    (h : ∀ off' rch' x, qj_Is 1000000 (qj_H d (qj_C d a t K) b) x → (x = 1000000 → post (-5) (qx_S d lt off' rch')) ∧ (x ≠ 1000000 → post (nI x) (qx_S d lt off' rch'))) :
    wX_earliestWith_33 post (nI b) z (nI t) (nI a) (nI (qj_L d)) (nI (qj_T d)) (qa_stp d) (qa_aft d) (qa_len d) lt (qa_tl d) (qa_st d) (qa_wk d) off rch := by
  refine hs _ ?_
  intro off' rch' hAt
  obtain ⟨x, ex, hx⟩ := qx_val hb hAt
  have hx1 := hx.1
  have hh := h off' rch' x hx
  have eb : vp_in (nI b) 8 := pk_in b 8 hb
  refine ⟨eb, pk_eq x 1000000 hh.1 (fun hne => ⟨eb, ?_⟩) ex⟩
  show post (rch' (nI b).toNatClampNeg) (qx_S d lt off' rch')
  rw [ex]
  exact hh.2 hne
theorem qy_ew (post : Int32 → SY → Prop) {d : qj_D} (hd : qj_ok d) {a t K b : Nat} (ha : a < 8) (ht : t ≤ 1000) (hK : K ≤ 12) (hb : b < 8) (off th : Nat → Int32)
    (h : ∀ off' th' n, qy_At d a t K th' → qj_Is 100000 (qj_H d (qj_C d a t K) b) n → (n = 100000 → post (-5) (qy_S d off' th')) ∧ (n ≠ 100000 → post (nI n) (qy_S d off' th'))) :
    wY_earliestWith_40 post (nI a) (nI b) (nI t) (nI K) (nI (qj_L d)) (nI (qj_T d)) (qa_len d) (qa_stp d) (qa_aft d) (qa_tl d) (qa_st d) (qa_wk d) off th := by
  unfold wY_earliestWith_40
  refine qy_search _ hd ha ht hK off th ?_
  intro off' th' hAt
  refine qy_best _ (Nat.le_refl K) hK hb off' th' hAt ?_
  intro n hn
  have hn1 := hn.1
  have hh := h off' th' n hAt hn
  exact pk_eq n 100000 hh.1 hh.2
theorem qj_fin {k : Nat} {d : qj_D} {lt off rch off' th : Nat → Int32} (hd : qj_ok d) (hlt : qj_lt d lt) {a t K b x n : Nat} (ht : t ≤ 1000) (hx : qj_Is 1000000 (qj_H d (qj_C d a t K) b) x) (hn : qj_Is 100000 (qj_H d (qj_C d a t K) b) n) {r : Int32} (hr : r = if x = 1000000 then -5 else nI x) :
    (n = 100000 → ((-5 : Int32) = r ∧ i_Rel k (qx_S d lt off rch) (qy_S d off' th))) ∧ (n ≠ 100000 → (nI n = r ∧ i_Rel k (qx_S d lt off rch) (qy_S d off' th))) := by
  rcases qj_agree (fun τ hτ => qj_HC_lim hd ht hτ) hx hn with ⟨h1, h2⟩ | ⟨h1, h2⟩
  · rw [if_pos h1] at hr
    exact ⟨fun _ => ⟨hr.symm, qj_rel hd hlt⟩, fun hh => absurd h2 hh⟩
  · rw [if_neg (by omega)] at hr
    exact ⟨fun hh => by omega, fun _ => ⟨by rw [hr, h1], qj_rel hd hlt⟩⟩
theorem i_vc_earliestWith {k : Nat} {u : SX} {v : SY} (I : i_Rel k u v) (hk : k + 5 ≤ 2560) (v1 : Int32) (v2 : Int32) (v3 : Int32) (v4 : Int32) : wpX_earliestWith (fun r u' => wpY_earliestWith (fun r' v' => r' = r ∧ i_Rel (k + 5) u' v') v v1 v2 v3 v4) u v1 v2 v3 v4 := by
  obtain ⟨d, lt, off, rch, off', th, hd, hlt, rfl, rfl⟩ := I
  unfold wpX_earliestWith qx_S
  dsimp only
  unfold wpY_earliestWith qy_S
  dsimp only
  rcases qj_fault v1 v2 v3 with ⟨f, h0, hneg, hX, hY⟩ | ⟨a, b, t, ha, hb, ht, rfl, rfl, rfl⟩
  · refine hX _ ?_
    refine br_f h0 ?_
    refine hY _ d off' th ?_
    exact br_f hneg ⟨rfl, qj_rel hd hlt⟩
  refine qx_fault_ok ha hb ht ?_
  refine br_t rfl ?_
  rcases qj_rng v4 12 (by decide) with h0 | ⟨h0, h1, h1'⟩ | ⟨K, hK, rfl⟩
  · refine br_t (Int32.le_of_lt (Int32.lt_trans h0 (by decide))) ?_
    refine qx_ew (K := 0) _ hb lt off rch v4 (fun post' hp => qx_search_neg post' hd ha ht (Int32.le_of_lt h0) lt off rch hp) ?_
    intro off2 rch2 x hx
    refine ⟨fun e1 => ?_, fun e1 => ?_⟩
    · refine qy_fault_ok ha hb ht ?_
      refine br_t (by decide) (br_f (Int32.not_le.mpr h0) ?_)
      exact qy_ew (K := 0) _ hd ha ht (by omega) hb off' th (fun off3 th3 n _ hn => qj_fin hd hlt ht hx hn (by rw [if_pos e1]))
    · refine qy_fault_ok ha hb ht ?_
      refine br_t (by decide) (br_f (Int32.not_le.mpr h0) ?_)
      exact qy_ew (K := 0) _ hd ha ht (by omega) hb off' th (fun off3 th3 n _ hn => qj_fin hd hlt ht hx hn (by rw [if_neg e1]))
  · have h2 : 0 ≤ v4 := Int32.not_lt.mp h0
    refine br_f h1' ?_
    refine qx_ew (K := 12) _ hb lt off rch 12 (fun post' hp => qx_search (K := 12) post' hd ha ht (by decide) lt off rch hp) ?_
    intro off2 rch2 x hx
    refine ⟨fun e1 => ?_, fun e1 => ?_⟩
    · refine qy_fault_ok ha hb ht ?_
      refine br_t (by decide) (br_t h2 (br_f h1' ?_))
      exact qy_ew (K := 12) _ hd ha ht (by omega) hb off' th (fun off3 th3 n _ hn => qj_fin hd hlt ht hx hn (by rw [if_pos e1]))
    · refine qy_fault_ok ha hb ht ?_
      refine br_t (by decide) (br_t h2 (br_f h1' ?_))
      exact qy_ew (K := 12) _ hd ha ht (by omega) hb off' th (fun off3 th3 n _ hn => qj_fin hd hlt ht hx hn (by rw [if_neg e1]))
  · have h2 : 0 ≤ nI K := nI_pos' (by omega)
    have h12 : nI K ≤ 12 := nI_le (b := 12) hK (by decide)
    refine br_t h12 ?_
    refine qx_ew (K := K) _ hb lt off rch (nI K) (fun post' hp => qx_search post' hd ha ht hK lt off rch hp) ?_
    intro off2 rch2 x hx
    refine ⟨fun e1 => ?_, fun e1 => ?_⟩
    · refine qy_fault_ok ha hb ht ?_
      refine br_t (by decide) (br_t h2 (br_t h12 ?_))
      exact qy_ew (K := K) _ hd ha ht hK hb off' th (fun off3 th3 n _ hn => qj_fin hd hlt ht hx hn (by rw [if_pos e1]))
    · refine qy_fault_ok ha hb ht ?_
      refine br_t (by decide) (br_t h2 (br_t h12 ?_))
      exact qy_ew (K := K) _ hd ha ht hK hb off' th (fun off3 th3 n _ hn => qj_fin hd hlt ht hx hn (by rw [if_neg e1]))
theorem qy_earliest (post : Int32 → SY → Prop) {d : qj_D} (hd : qj_ok d) {a t b : Nat} (ha : a < 8) (ht : t ≤ 1000) (hb : b < 8) (off th : Nat → Int32)
    (h : ∀ off' th' n, qy_At d a t 12 th' → qj_Is 100000 (qj_H d (qj_C d a t 12) b) n → (n = 100000 → post (-5) (qy_S d off' th')) ∧ (n ≠ 100000 → post (nI n) (qy_S d off' th'))) :
    wpY_earliest post (qy_S d off th) (nI a) (nI b) (nI t) := by
  unfold wpY_earliest qy_S
  dsimp only
  unfold wpY_earliestWith
  dsimp only
  refine qy_fault_ok ha hb ht ?_
  refine br_t (by decide) (br_t (by decide) (br_t (by decide) ?_))
  exact qy_ew (K := 12) _ hd ha ht (by omega) hb off th h
theorem qy_earliest_no (post : Int32 → SY → Prop) {d : qj_D} (off th : Nat → Int32) {p0 p1 p2 f : Int32} (hneg : ¬ 0 ≤ f) (hY : ∀ (post : Int32 → Prop) (d : qj_D) (off th : Nat → Int32), post f → wpY_refusal post (qy_S d off th) p0 p1 p2) (h : post f (qy_S d off th)) : wpY_earliest post (qy_S d off th) p0 p1 p2 := by
  unfold wpY_earliest qy_S
  dsimp only
  unfold wpY_earliestWith
  dsimp only
  refine hY _ d off th ?_
  exact br_f hneg h
theorem i_vc_earliest {k : Nat} {u : SX} {v : SY} (I : i_Rel k u v) (hk : k + 5 ≤ 2560) (v1 : Int32) (v2 : Int32) (v3 : Int32) : wpX_earliest (fun r u' => wpY_earliest (fun r' v' => r' = r ∧ i_Rel (k + 5) u' v') v v1 v2 v3) u v1 v2 v3 := by
  obtain ⟨d, lt, off, rch, off', th, hd, hlt, rfl, rfl⟩ := I
  unfold wpX_earliest qx_S
  dsimp only
  rcases qj_fault v1 v2 v3 with ⟨f, h0, hneg, hX, hY⟩ | ⟨a, b, t, ha, hb, ht, rfl, rfl, rfl⟩
  · refine hX _ ?_
    refine br_f h0 ?_
    exact qy_earliest_no _ off' th hneg hY ⟨rfl, qj_rel hd hlt⟩
  refine qx_fault_ok ha hb ht ?_
  refine br_t rfl ?_
  refine qx_ew (K := 12) (fun r u' => wpY_earliest (fun r' v' => r' = r ∧ i_Rel (k + 5) u' v') (qy_S d off' th) (nI a) (nI b) (nI t)) hb lt off rch 12 (fun post' hp => qx_search (K := 12) post' hd ha ht (by decide) lt off rch hp) ?_
  intro off2 rch2 x hx
  refine ⟨fun e1 => ?_, fun e1 => ?_⟩
  · exact qy_earliest _ hd ha ht hb off' th (fun off3 th3 n _ hn => qj_fin hd hlt ht hx hn (by rw [if_pos e1]))
  · exact qy_earliest _ hd ha ht hb off' th (fun off3 th3 n _ hn => qj_fin hd hlt ht hx hn (by rw [if_neg e1]))
end
section
/-- l is the least number of rides with which b is reached as early as with i -/
def qj_lst (d : qj_D) (a t b i l : Nat) : Prop := l ≤ i ∧ (∀ τ, τ < 1000000 → qj_H d (qj_C d a t i) b τ → qj_H d (qj_C d a t l) b τ) ∧ ∀ j, j < l → ∃ τ, qj_H d (qj_C d a t i) b τ ∧ ¬ qj_H d (qj_C d a t j) b τ
theorem qx_rides28 (post : Int32 → SX → Prop) {d : qj_D} (hd : qj_ok d) {a t b : Nat} (hb : b < 8) (lt : Nat → Int32)
    (h : ∀ off rch l x, qj_Is 1000000 (qj_H d (qj_C d a t 12) b) x → qj_lst d a t b 12 l → (x = 1000000 → post (-5) (qx_S d lt off rch)) ∧ (x ≠ 1000000 → post (nI l) (qx_S d lt off rch))) :
    ∀ (e i : Nat) (off rch : Nat → Int32) (l : Nat), i + e = 12 → qx_At d a t i off rch → qj_lst d a t b i l → wX_rides_28 post (nI b) (e + 1) (nI l) (nI (i + 1)) (nI (qj_L d)) (nI (qj_T d)) (qa_stp d) (qa_aft d) (qa_len d) lt (qa_tl d) (qa_st d) (qa_wk d) off rch := by
  have eb : vp_in (nI b) 8 := pk_in b 8 hb
  intro e
  induction e with
  | zero =>
    intro i off rch l hi hAt hl
    have ei : i = 12 := by omega
    subst ei
    obtain ⟨x, ex, hx⟩ := qx_val hb hAt
    have hx1 := hx.1
    have hh := h off rch l x hx hl
    exact br_t (nI_lt (a := 12) (by omega) (by decide)) ⟨eb, pk_eq x 1000000 hh.1 hh.2 ex⟩
  | succ e ih =>
    intro i off rch l hi hAt hl
    obtain ⟨x, ex, hx⟩ := qx_val hb hAt
    have hx1 := hx.1
    refine br_f (nI_nlt (a := 12) (by omega) (by decide)) ⟨eb, nm_r ex ?_⟩
    refine qx_rideOnce _ hd lt off rch hAt ?_
    intro off' rch' hAt'
    obtain ⟨x', ex', hx'⟩ := qx_val hb hAt'
    have hx1' := hx'.1
    show vp_in (nI b) 8 ∧ ((nI x ≤ rch' (nI b).toNatClampNeg → ∀ x6 : Int32, x6 = nI (i + 1) + 1 → wX_rides_28 post (nI b) (e + 1) (nI l) x6 (nI (qj_L d)) (nI (qj_T d)) (qa_stp d) (qa_aft d) (qa_len d) lt (qa_tl d) (qa_st d) (qa_wk d) off' rch') ∧ (¬ nI x ≤ rch' (nI b).toNatClampNeg → ∀ x6 : Int32, x6 = nI (i + 1) + 1 → wX_rides_28 post (nI b) (e + 1) (nI (i + 1)) x6 (nI (qj_L d)) (nI (qj_T d)) (qa_stp d) (qa_aft d) (qa_len d) lt (qa_tl d) (qa_st d) (qa_wk d) off' rch'))
    refine ⟨eb, pk_le x x' (fun hle => nm_r (nI_1 (i + 1)) (ih (i + 1) off' rch' l (by omega) hAt' ?_)) (fun hgt => nm_r (nI_1 (i + 1)) (ih (i + 1) off' rch' (i + 1) (by omega) hAt' ?_)) rfl ex'⟩
    · obtain ⟨h1, h2, h3⟩ := hl
      refine ⟨by omega, fun τ hτ hH => h2 τ hτ ?_, fun j hj => ?_⟩
      · have := (hx'.2 τ hτ).mpr hH
        exact (hx.2 τ hτ).mp (by omega)
      · obtain ⟨τ, h4, h5⟩ := h3 j hj
        exact ⟨τ, qj_HC_more (by omega) h4, h5⟩
    · refine ⟨Nat.le_refl _, fun τ hτ hH => hH, fun j hj => ?_⟩
      refine ⟨x', (hx'.2 x' (by omega)).mp (Nat.le_refl _), fun hH => ?_⟩
      have := (hx.2 x' (by omega)).mpr (qj_HC_more (by omega) hH)
      omega
theorem qj_Is_uniq {F : Nat} {Q : Nat → Prop} {x y : Nat} (hx : qj_Is F Q x) (hy : qj_Is F Q y) : x = y := by
  have h1 := hx.1
  have h2 := hy.1
  have h3 : x < F → y ≤ x := fun h => (hy.2 x h).mpr ((hx.2 x h).mp (Nat.le_refl x))
  have h4 : y < F → x ≤ y := fun h => (hx.2 y h).mpr ((hy.2 y h).mp (Nat.le_refl y))
  omega
theorem qy_rides20 (post : Int32 → SY → Prop) {d : qj_D} {a t b n l : Nat} (hb : b < 8) (off th : Nat → Int32) (hAt : qy_At d a t 12 th) (hn : qj_Is 100000 (qj_H d (qj_C d a t 12) b) n) (hn2 : n ≤ 2000) (hl : qj_lst d a t b 12 l)
    (hp : post (nI l) (qy_S d off th)) : ∀ e k, k + e = l → wY_rides_20 post (nI b) (nI n) (nI (qj_L d)) (nI (qj_T d)) (qa_len d) (qa_stp d) (qa_aft d) (qa_tl d) (qa_st d) (qa_wk d) off th (e + 1) (nI k) := by
  obtain ⟨hl1, hl2, hl3⟩ := hl
  intro e
  induction e with
  | zero =>
    intro k hk
    have ek : k = l := by omega
    subst ek
    by_cases h12 : k = 12
    · exact br_t (by rw [h12]; decide) hp
    · refine br_f (nI_ge (b := 12) (by omega) (by decide)) ?_
      refine qy_best _ (K := k) (K0 := 12) (by omega) (by omega) hb off th hAt ?_
      intro y hy
      have e : y = n := by
        refine qj_Is_uniq (qj_Is_iff ?_ hy) hn
        exact fun τ hτ => ⟨fun hH => qj_HC_more (by omega) hH, fun hH => hl2 τ (by omega) hH⟩
      exact br_t (by rw [e]) hp
  | succ e ih =>
    intro k hk
    refine br_f (nI_ge (b := 12) (by omega) (by decide)) ?_
    refine qy_best _ (K := k) (K0 := 12) (by omega) (by omega) hb off th hAt ?_
    intro y hy
    have hy1 := hy.1
    have e : y ≠ n := by
      intro e
      obtain ⟨τ, h4, h5⟩ := hl3 k (by omega)
      have hk' : qj_H d (qj_C d a t k) b n := (hy.2 n (by omega)).mp (by omega)
      have hle : n ≤ τ := by
        by_cases hτ : τ < 100000
        · exact (hn.2 τ hτ).mpr h4
        · omega
      exact h5 (qj_HC_up hk' hle)
    exact br_f (fun hh => e ((nI_eq (by omega) (by omega)).mp hh)) (nm_r (nI_1 k) (ih (k + 1) (by omega)))
theorem i_vc_rides {k : Nat} {u : SX} {v : SY} (I : i_Rel k u v) (hk : k + 5 ≤ 2560) (v1 : Int32) (v2 : Int32) (v3 : Int32) : wpX_rides (fun r u' => wpY_rides (fun r' v' => r' = r ∧ i_Rel (k + 5) u' v') v v1 v2 v3) u v1 v2 v3 := by
  obtain ⟨d, lt, off, rch, off', th, hd, hlt, rfl, rfl⟩ := I
  unfold wpX_rides qx_S
  dsimp only
  rcases qj_fault v1 v2 v3 with ⟨f, h0, hneg, hX, hY⟩ | ⟨a, b, t, ha, hb, ht, rfl, rfl, rfl⟩
  · refine hX _ ?_
    refine br_f h0 ?_
    unfold wpY_rides qy_S
    dsimp only
    refine qy_earliest_no _ off' th hneg hY ?_
    exact br_f hneg ⟨rfl, qj_rel hd hlt⟩
  refine qx_fault_ok ha hb ht ?_
  refine br_t rfl ?_
  refine qx_beginAt _ hd ha ht lt off rch ?_
  intro off2 rch2 hAt2
  refine ⟨13, qx_rides28 _ hd hb lt ?_ 12 0 off2 rch2 0 (by omega) hAt2 ⟨Nat.le_refl 0, fun τ _ hH => hH, fun j hj => absurd hj (Nat.not_lt_zero j)⟩⟩
  intro off3 rch3 l x hx hl
  refine ⟨fun e1 => ?_, fun e1 => ?_⟩
  · unfold wpY_rides qy_S
    dsimp only
    refine qy_earliest _ hd ha ht hb off' th ?_
    intro off4 th4 n hAt4 hn
    rcases qj_agree (fun τ hτ => qj_HC_lim hd ht hτ) hx hn with ⟨h1, h2⟩ | ⟨h1, h2⟩
    · exact ⟨fun _ => br_f (by decide) ⟨rfl, qj_rel hd hlt⟩, fun hh => absurd h2 hh⟩
    · omega
  · unfold wpY_rides qy_S
    dsimp only
    refine qy_earliest _ hd ha ht hb off' th ?_
    intro off4 th4 n hAt4 hn
    rcases qj_agree (fun τ hτ => qj_HC_lim hd ht hτ) hx hn with ⟨h1, h2⟩ | ⟨h1, h2⟩
    · exact absurd h1 e1
    · refine ⟨fun hh => by omega, fun _ => br_t (nI_pos' (by omega)) ⟨l + 1, ?_⟩⟩
      exact qy_rides20 _ hb off4 th4 hAt4 hn (by omega) hl ⟨rfl, qj_rel hd hlt⟩ l 0 (by omega)
end
section
/-- who begins at a at y is at b by t -/
def qj_good (d : qj_D) (a b t y : Nat) : Prop := y ≤ t ∧ qj_H d (qj_C d a y 12) b t
theorem qj_good_anti {d : qj_D} {a b t y y' : Nat} (h : y' ≤ y) (hg : qj_good d a b t y) : qj_good d a b t y' := ⟨Nat.le_trans h hg.1, qj_HC_early h hg.2⟩
/-- the halving steps: 512, 256 .. 1, 0 -/
def qj_hs : Nat → Nat
  | 0 => 0
  | q + 1 => 2 ^ q
theorem qj_hs_half (q : Nat) : 2 ^ q / 2 = qj_hs q := by
  cases q with
  | zero => rfl
  | succ q =>
    show 2 ^ (q + 1) / 2 = 2 ^ q
    rw [Nat.pow_succ, Nat.mul_div_cancel _ (by decide)]
theorem qj_m1 {p : Nat} (h : 0 < p) : nI p + (-1) = nI (p - 1) := by
  obtain ⟨q, rfl⟩ : ∃ q, p = q + 1 := ⟨p - 1, by omega⟩
  rw [pk_m1, Nat.add_sub_cancel]
theorem qj_e7 (g p : Nat) : nI g + (-1) + nI p = nI (g + p) + (-1) := by
  rw [Int32.add_assoc, Int32.add_comm (-1) (nI p), ← Int32.add_assoc, nI_add]
/-- the answer of latest: g is one more than the last good time, 0 if there is none -/
def qj_ans (g : Nat) : Int32 := if g = 0 then -5 else nI (g - 1)
theorem qx_arrives (post : Int32 → SX → Prop) {d : qj_D} (hd : qj_ok d) {a b t y : Nat} (ha : a < 8) (hb : b < 8) (ht : t ≤ 1000) (hy : y ≤ t) (lt off rch : Nat → Int32)
    (h1 : ∀ off' rch', qj_good d a b t y → post 1 (qx_S d lt off' rch')) (h0 : ∀ off' rch', ¬ qj_good d a b t y → post 0 (qx_S d lt off' rch')) {x : Int32} (hx : x = nI y) : wpX_arrivesBy post (qx_S d lt off rch) (nI a) (nI b) x (nI t) := by
  subst hx
  unfold wpX_arrivesBy qx_S
  dsimp only
  refine qx_search (K := 12) _ hd ha (t := y) (by omega) (by decide) lt off rch ?_
  intro off' rch' hAt
  obtain ⟨x, ex, hx⟩ := qx_val hb hAt
  have hx1 := hx.1
  have hxt := hx.2 t (by omega)
  refine ⟨pk_in b 8 hb, pk_lt t x (fun hlt => h0 off' rch' ?_) (fun hge => h1 off' rch' ⟨hy, hxt.mp hge⟩) rfl ex⟩
  intro hg
  have := hxt.mpr hg.2
  omega
theorem qx_latest24 (post : Int32 → SX → Prop) {d : qj_D} (hd : qj_ok d) {a b t : Nat} (ha : a < 8) (hb : b < 8) (ht : t ≤ 1000) (lt : Nat → Int32)
    (h : ∀ off rch g, (g = 0 ∨ qj_good d a b t (g - 1)) → (∀ y, g ≤ y → ¬ qj_good d a b t y) → post (qj_ans g) (qx_S d lt off rch)) :
    ∀ (q g : Nat) (off rch : Nat → Int32), q ≤ 10 → (g = 0 ∨ qj_good d a b t (g - 1)) → (∀ y, g + 2 ^ q ≤ y + 1 → ¬ qj_good d a b t y) →
      wX_latest_24 post (nI a) (nI b) (nI t) (q + 1) (nI g + (-1)) (nI (qj_hs q)) (nI (qj_L d)) (nI (qj_T d)) (qa_stp d) (qa_aft d) (qa_len d) lt (qa_tl d) (qa_st d) (qa_wk d) off rch := by
  intro q
  induction q with
  | zero =>
    intro g off rch hq hg hu
    have hh := h off rch g hg (fun y hy => hu y (by omega))
    refine br_t (by decide) ?_
    by_cases e : g = 0
    · subst e
      exact br_f (by decide) hh
    · rw [qj_ans, if_neg e] at hh
      have hgt : g ≤ t + 1 := by
        rcases hg with h1 | h1
        · omega
        · have := h1.1; omega
      rw [qj_m1 (by omega)]
      exact br_t (nI_pos' (by omega)) hh
  | succ q ih =>
    intro g off rch hq hg hu
    have hgt : g ≤ t + 1 := by
      rcases hg with h1 | h1
      · omega
      · have := h1.1; omega
    have hp1 : 1 ≤ 2 ^ q := Nat.one_le_two_pow
    have hp2 : 2 ^ q ≤ 2 ^ 9 := Nat.pow_le_pow_right (by decide) (by omega)
    have hp3 : 2 ^ (q + 1) = 2 ^ q * 2 := Nat.pow_succ 2 q
    have ehalf : nI (2 ^ q) / 2 = nI (qj_hs q) := by
      rw [← qj_hs_half q]
      exact pk_div (d := 2) (by omega) (by decide) (by decide)
    have e7 : nI (g + 2 ^ q) + (-1) = nI (g + 2 ^ q - 1) := qj_m1 (by omega)
    refine br_f (nI_nle (n := 2 ^ q) (by omega) (by omega)) (nm_r (qj_e7 g (2 ^ q)) ?_)
    refine pk_lt t (g + 2 ^ q - 1) (fun hlt => ⟨by decide, nm_r ehalf (ih g off rch (by omega) hg ?_)⟩) (fun hge => ?_) rfl e7
    · intro y hy hgy
      have := hgy.1
      omega
    · refine qx_arrives _ hd ha hb ht (y := g + 2 ^ q - 1) hge lt off rch ?_ ?_ e7
      · intro off' rch' hgood
        refine br_f qj_10 ⟨by decide, nm_r ehalf (ih (g + 2 ^ q) off' rch' (by omega) (Or.inr hgood) ?_)⟩
        exact fun y hy => hu y (by omega)
      · intro off' rch' hgood
        refine br_t rfl ⟨by decide, nm_r ehalf (ih g off' rch' (by omega) hg ?_)⟩
        exact fun y hy hgy => hgood (qj_good_anti (by omega) hgy)
theorem qy_latest20 (post : Int32 → SY → Prop) {d : qj_D} (hd : qj_ok d) {a b t g : Nat} (ha : a < 8) (hb : b < 8) (ht : t ≤ 1000) (hg : g = 0 ∨ qj_good d a b t (g - 1)) (hu : ∀ y, g ≤ y → ¬ qj_good d a b t y)
    (h : ∀ off th, post (qj_ans g) (qy_S d off th)) : ∀ (y : Nat) (off th : Nat → Int32), g ≤ y → y ≤ t + 1 → wY_latest_20 post (nI a) (nI b) (nI t) (y + 1) (nI y + (-1)) (nI (qj_L d)) (nI (qj_T d)) (qa_len d) (qa_stp d) (qa_aft d) (qa_tl d) (qa_st d) (qa_wk d) off th := by
  intro y
  induction y with
  | zero =>
    intro off th hgy hyt
    have hh := h off th
    rw [qj_ans, if_pos (by omega)] at hh
    exact br_t (by decide) hh
  | succ y ih =>
    intro off th hgy hyt
    rw [pk_m1]
    refine br_f (nI_pos (by omega)) ?_
    refine qy_search (K := 8) _ hd ha (t := y) (by omega) (by decide) off th ?_
    intro off' th' hAt
    refine qy_best _ (K := 8) (K0 := 8) (by decide) (by decide) hb off' th' hAt ?_
    intro n hn
    have hn1 := hn.1
    have hnt := hn.2 t (by omega)
    refine pk_lt t n (fun hlt => nm_e (ih off' th' ?_ (by omega))) (fun hge => ?_)
    · have hng : ¬ qj_good d a b t y := by
        intro hgood
        have := hnt.mpr (qj_eight hd ha hgood.2)
        omega
      by_cases e : g = y + 1
      · rcases hg with h1 | h1
        · omega
        · rw [e, Nat.add_sub_cancel] at h1
          exact absurd h1 hng
      · omega
    · have hgood : qj_good d a b t y := ⟨by omega, qj_HC_more (by decide) (hnt.mp hge)⟩
      have e : g = y + 1 := by
        by_cases h1 : g ≤ y
        · exact absurd hgood (hu y h1)
        · omega
      have hh := h off' th'
      rw [qj_ans, if_neg (by omega), e, Nat.add_sub_cancel] at hh
      exact hh
theorem i_vc_latest {k : Nat} {u : SX} {v : SY} (I : i_Rel k u v) (hk : k + 5 ≤ 2560) (v1 : Int32) (v2 : Int32) (v3 : Int32) : wpX_latest (fun r u' => wpY_latest (fun r' v' => r' = r ∧ i_Rel (k + 5) u' v') v v1 v2 v3) u v1 v2 v3 := by
  obtain ⟨d, lt, off, rch, off', th, hd, hlt, rfl, rfl⟩ := I
  unfold wpX_latest qx_S
  dsimp only
  unfold wpY_latest qy_S
  dsimp only
  rcases qj_fault v1 v2 v3 with ⟨f, h0, hneg, hX, hY⟩ | ⟨a, b, t, ha, hb, ht, rfl, rfl, rfl⟩
  · refine hX _ ?_
    refine br_f h0 ?_
    refine hY _ d off' th ?_
    exact br_f hneg ⟨rfl, qj_rel hd hlt⟩
  refine qx_fault_ok ha hb ht ?_
  refine br_t rfl ⟨11, ?_⟩
  refine qx_latest24 _ hd ha hb ht lt ?_ 10 0 off rch (by decide) (Or.inl rfl) ?_
  · intro off2 rch2 g hg hu
    refine qy_fault_ok ha hb ht ?_
    refine br_t (by decide) ⟨t + 1 + 1, ?_⟩
    have hgt : g ≤ t + 1 := by
      rcases hg with h1 | h1
      · omega
      · have := h1.1; omega
    have hh := qy_latest20 (fun r' v' => r' = qj_ans g ∧ i_Rel (k + 5) (qx_S d lt off2 rch2) v') hd ha hb ht hg hu (fun off3 th3 => ⟨rfl, qj_rel hd hlt⟩) (t + 1) off' th hgt (Nat.le_refl _)
    rw [pk_m1] at hh
    exact hh
  · intro y hy hgy
    have := hgy.1
    omega
end
section
theorem qj_cnt_y {P : Nat → Prop} {n : Nat} (h : P n) : qj_cnt P n + 1 = qj_cnt P (n + 1) := by
  simp only [qj_cnt, if_pos h]
theorem qj_cnt_n {P : Nat → Prop} {n : Nat} (h : ¬ P n) : qj_cnt P n = qj_cnt P (n + 1) := by
  simp only [qj_cnt, if_neg h, Nat.add_zero]
theorem qx_within40 (post : Int32 → SX → Prop) {d : qj_D} {a t w : Nat} (hw : w ≤ 1000) (lt off rch : Nat → Int32) (hAt : qx_At d a t 12 off rch)
    (h : post (nI (qj_cnt (fun s => qj_H d (qj_C d a t 12) s w) 8)) (qx_S d lt off rch)) :
    ∀ e i, i + e = 8 → wX_within_40 post (nI w) (nI (qj_L d)) (nI (qj_T d)) (qa_stp d) (qa_aft d) (qa_len d) lt (qa_tl d) (qa_st d) (qa_wk d) off rch (e + 1) (nI (qj_cnt (fun s => qj_H d (qj_C d a t 12) s w) i)) (nI i) := by
  intro e
  induction e with
  | zero =>
    intro i hi
    have ei : i = 8 := by omega
    subst ei
    exact br_t (nI_le (b := 8) (a := 8) (by omega) (by decide)) h
  | succ e ih =>
    intro i hi
    have ih1 := ih (i + 1) (by omega)
    obtain ⟨x, ex, hx⟩ := qx_val (b := i) (by omega) hAt
    have hx1 := hx.1
    have hxw := hx.2 w (by omega)
    refine br_f (nI_ge (b := 8) (by omega) (by decide)) ⟨pk_in i 8 (by omega), pk_lt w x (fun hlt => nm_r (nI_1 i) ?_) (fun hge => nm_r (nI_1 _) (nm_r (nI_1 i) ?_)) rfl ex⟩
    · rw [qj_cnt_n (P := fun s => qj_H d (qj_C d a t 12) s w) (n := i) (fun hP => absurd (hxw.mpr hP) (by omega))]
      exact ih1
    · rw [qj_cnt_y (P := fun s => qj_H d (qj_C d a t 12) s w) (n := i) (hxw.mp hge)]
      exact ih1
theorem qy_within42 (post : Int32 → SY → Prop) {d : qj_D} {a t w : Nat} (hw : w ≤ 1000) (off th : Nat → Int32) (hAt : qy_At d a t 12 th)
    (h : post (nI (qj_cnt (fun s => qj_H d (qj_C d a t 12) s w) 8)) (qy_S d off th)) :
    ∀ e i, i + e = 8 → wY_within_42 post (nI w) (nI (qj_L d)) (nI (qj_T d)) (qa_len d) (qa_stp d) (qa_aft d) (qa_tl d) (qa_st d) (qa_wk d) off th (e + 1) (nI (qj_cnt (fun s => qj_H d (qj_C d a t 12) s w) i)) (nI i) := by
  intro e
  induction e with
  | zero =>
    intro i hi
    have ei : i = 8 := by omega
    subst ei
    exact br_t (nI_le (b := 8) (a := 8) (by omega) (by decide)) h
  | succ e ih =>
    intro i hi
    have ih1 := ih (i + 1) (by omega)
    refine br_f (nI_ge (b := 8) (by omega) (by decide)) ?_
    refine qy_best _ (K := 12) (K0 := 12) (by decide) (by decide) (b := i) (by omega) off th hAt ?_
    intro x hx
    have hx1 := hx.1
    have hxw := hx.2 w (by omega)
    refine pk_lt w x (fun hlt => nm_r (nI_1 i) ?_) (fun hge => nm_r (nI_1 _) (nm_r (nI_1 i) ?_))
    · rw [qj_cnt_n (P := fun s => qj_H d (qj_C d a t 12) s w) (n := i) (fun hP => absurd (hxw.mpr hP) (by omega))]
      exact ih1
    · rw [qj_cnt_y (P := fun s => qj_H d (qj_C d a t 12) s w) (n := i) (hxw.mp hge)]
      exact ih1
theorem i_vc_within {k : Nat} {u : SX} {v : SY} (I : i_Rel k u v) (hk : k + 5 ≤ 2560) (v1 : Int32) (v2 : Int32) (v3 : Int32) : wpX_within (fun r u' => wpY_within (fun r' v' => r' = r ∧ i_Rel (k + 5) u' v') v v1 v2 v3) u v1 v2 v3 := by
  obtain ⟨d, lt, off, rch, off', th, hd, hlt, rfl, rfl⟩ := I
  unfold wpX_within qx_S
  dsimp only
  unfold wpY_within qy_S
  dsimp only
  rcases qj_ix v1 8 (by decide) with hb | ⟨a, ha, rfl⟩
  · refine qx_isStop_no hb ?_
    refine br_t rfl ?_
    unfold wpY_refusal
    dsimp only
    refine qy_isStop_no hb ?_
    exact br_t rfl (br_f (by decide) ⟨rfl, qj_rel hd hlt⟩)
  refine qx_isStop_yes ha ?_
  refine br_f qj_10 ?_
  have ht : (v2 < 0 ∨ (¬ v2 < 0 ∧ nI 1000 < v2 ∧ ¬ v2 ≤ nI 1000)) ∨ ∃ t : Nat, t ≤ 1000 ∧ v2 = nI t := or_assoc.mpr (qj_rng v2 1000 (by decide))
  rcases ht with hbad | ⟨t, ht, rfl⟩
  · refine qx_isTime_no hbad ?_
    refine br_t rfl ?_
    unfold wpY_refusal
    dsimp only
    refine qy_isStop_yes ha ?_
    refine br_f qj_10 ?_
    refine qy_isStop_yes ha ?_
    refine br_f qj_10 ?_
    refine qy_isTime_no hbad ?_
    exact br_t rfl (br_f (by decide) ⟨rfl, qj_rel hd hlt⟩)
  refine qx_isTime_yes ht ?_
  refine br_f qj_10 ?_
  have hw : (v3 < 0 ∨ (¬ v3 < 0 ∧ nI 1000 < v3 ∧ ¬ v3 ≤ nI 1000)) ∨ ∃ w : Nat, w ≤ 1000 ∧ v3 = nI w := or_assoc.mpr (qj_rng v3 1000 (by decide))
  rcases hw with hbad | ⟨w, hw, rfl⟩
  · refine qx_isTime_no hbad ?_
    refine br_t rfl ?_
    refine qy_fault_ok ha ha ht ?_
    refine br_t (by decide) ?_
    refine qy_isTime_no hbad ?_
    exact br_t rfl ⟨rfl, qj_rel hd hlt⟩
  refine qx_isTime_yes hw ?_
  refine br_f qj_10 ?_
  refine qx_search (K := 12) _ hd ha ht (by decide) lt off rch ?_
  intro off2 rch2 hAt2
  refine ⟨9, qx_within40 _ hw lt off2 rch2 hAt2 ?_ 8 0 (by omega)⟩
  refine qy_fault_ok ha ha ht ?_
  refine br_t (by decide) ?_
  refine qy_isTime_yes hw ?_
  refine br_f qj_10 ?_
  refine qy_search (K := 12) _ hd ha ht (by decide) off' th ?_
  intro off3 th3 hAt3
  exact ⟨9, qy_within42 _ hw off3 th3 hAt3 ⟨rfl, qj_rel hd hlt⟩ 8 0 (by omega)⟩
end
