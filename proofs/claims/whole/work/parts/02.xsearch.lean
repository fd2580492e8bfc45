def qa_stp (d : qj_D) : Nat → Int32 := fun j => nI (qj_stp d j)
def qa_aft (d : qj_D) : Nat → Int32 := fun j => nI (qj_aft d j)
def qa_len (d : qj_D) : Nat → Int32 := fun j => nI (qj_len d j)
def qa_tl (d : qj_D) : Nat → Int32 := fun j => nI (qj_tl d j)
def qa_st (d : qj_D) : Nat → Int32 := fun j => nI (qj_st d j)
def qa_wk (d : qj_D) : Nat → Int32 := fun j => nI (qj_wk d j)
/-- the component's state over the timetable d -/
def qx_S (d : qj_D) (lt off rch : Nat → Int32) : SX := (nI (qj_L d), nI (qj_T d), qa_stp d, qa_aft d, qa_len d, lt, qa_tl d, qa_st d, qa_wk d, off, rch)
/-- the reference's state over the timetable d -/
def qy_S (d : qj_D) (off th : Nat → Int32) : SY := (nI (qj_L d), nI (qj_T d), qa_len d, qa_stp d, qa_aft d, qa_tl d, qa_st d, qa_wk d, off, th)
theorem qj_ix8 (i s : Nat) : nI i * 8 + nI s = nI (i * 8 + s) := by
  rw [show (8 : Int32) = nI 8 from rfl, pk_mul, nI_add]
theorem qj_ix6 (i s : Nat) : nI i * 6 + nI s = nI (i * 6 + s) := by
  rw [show (6 : Int32) = nI 6 from rfl, pk_mul, nI_add]
theorem qj_x6 (i : Nat) : nI i * 6 = nI (i * 6) := by
  rw [show (6 : Int32) = nI 6 from rfl, pk_mul]
/-- what stop s is reached at, walked from off times o over the first i stops -/
def qj_wf (d : qj_D) (o : Nat → Nat) (s : Nat) : Nat → Nat
  | 0 => o s
  | i + 1 => if 0 < qj_wk d (i * 8 + s) ∧ o i + qj_wk d (i * 8 + s) < qj_wf d o s i then o i + qj_wk d (i * 8 + s) else qj_wf d o s i
theorem qj_wf_le (d : qj_D) (o : Nat → Nat) (s : Nat) : ∀ i, qj_wf d o s i ≤ o s := by
  intro i
  induction i with
  | zero => exact Nat.le_refl _
  | succ i ih =>
    by_cases h : 0 < qj_wk d (i * 8 + s) ∧ o i + qj_wk d (i * 8 + s) < qj_wf d o s i
    · rw [qj_wf, if_pos h]; omega
    · rw [qj_wf, if_neg h]; exact ih
theorem qj_wf_iff (d : qj_D) (o : Nat → Nat) (s τ : Nat) : ∀ i, qj_wf d o s i ≤ τ ↔ (o s ≤ τ ∨ ∃ u, u < i ∧ 0 < qj_wk d (u * 8 + s) ∧ o u + qj_wk d (u * 8 + s) ≤ τ) := by
  intro i
  induction i with
  | zero =>
    constructor
    · exact fun h => Or.inl h
    · rintro (h | ⟨u, hu, _⟩)
      · exact h
      · omega
  | succ i ih =>
    by_cases h : 0 < qj_wk d (i * 8 + s) ∧ o i + qj_wk d (i * 8 + s) < qj_wf d o s i
    · rw [qj_wf, if_pos h]
      constructor
      · exact fun hh => Or.inr ⟨i, by omega, h.1, hh⟩
      · rintro (h1 | ⟨u, hu, h2, h3⟩)
        · have := ih.mpr (Or.inl h1); omega
        · by_cases e : u = i
          · subst e; exact h3
          · have := ih.mpr (Or.inr ⟨u, by omega, h2, h3⟩); omega
    · rw [qj_wf, if_neg h]
      constructor
      · intro hh
        rcases ih.mp hh with h1 | ⟨u, hu, h2, h3⟩
        · exact Or.inl h1
        · exact Or.inr ⟨u, by omega, h2, h3⟩
      · rintro (h1 | ⟨u, hu, h2, h3⟩)
        · exact ih.mpr (Or.inl h1)
        · by_cases e : u = i
          · subst e; omega
          · exact ih.mpr (Or.inr ⟨u, by omega, h2, h3⟩)
theorem qj_wf_is {d : qj_D} {F : Nat} {c : Nat → Nat → Prop} {o : Nat → Nat} (h : ∀ s, s < 8 → qj_Is F (c s) (o s)) {s : Nat} (hs : s < 8) : qj_Is F (qj_H d c s) (qj_wf d o s 8) := by
  refine ⟨Nat.le_trans (qj_wf_le d o s 8) (h s hs).1, fun τ hτ => ?_⟩
  rw [qj_wf_iff]
  constructor
  · rintro (h1 | ⟨u, hu, hw, h2⟩)
    · exact Or.inl (((h s hs).2 τ hτ).mp h1)
    · exact Or.inr ⟨u, hu, hw, o u, ((h u hu).2 (o u) (by omega)).mp (Nat.le_refl _), h2⟩
  · rintro (h1 | ⟨u, hu, hw, σ, h2, h3⟩)
    · exact Or.inl (((h s hs).2 τ hτ).mpr h1)
    · have := ((h u hu).2 σ (by omega)).mpr h2
      exact Or.inr ⟨u, hu, hw, by omega⟩
theorem qx_walk17 (post : SX → Prop) (J2 : Int32 → (Nat → Int32) → (Nat → Int32) → (Nat → Int32) → (Nat → Int32) → (Nat → Int32) → (Nat → Int32) → (Nat → Int32) → (Nat → Int32) → (Nat → Int32) → Prop) {d : qj_D} (hd : qj_ok d) (lt off rch : Nat → Int32) {o : Nat → Nat} (ho : ∀ s, s < 8 → off s = nI (o s) ∧ o s ≤ 1000000) {s : Nat} (hs : s < 8)
    (h : J2 (nI (s + 1)) (qa_stp d) (qa_aft d) (qa_len d) lt (qa_tl d) (qa_st d) (qa_wk d) off (upd rch s (nI (qj_wf d o s 8)))) :
    ∀ e i, i + e = 8 → wX_walk_17 post J2 (nI s) (nI (qj_L d)) (nI (qj_T d)) (qa_stp d) (qa_aft d) (qa_len d) lt (qa_tl d) (qa_st d) (qa_wk d) off rch (e + 1) (nI (qj_wf d o s i)) (nI i) := by
  intro e
  induction e with
  | zero =>
    intro i hi
    have ei : i = 8 := by omega
    subst ei
    exact br_t (nI_le (b := 8) (a := 8) (by omega) (by decide)) ⟨pk_in s 8 hs, nm_r (by rw [nI_clamp (by omega)]) (nm_r (nI_1 s) h)⟩
  | succ e ih =>
    intro i hi
    have ih1 := ih (i + 1) (by omega)
    have hw := qj_ok_wk hd (i * 8 + s)
    have hoi := (ho i (by omega)).2
    have hwl := qj_wf_le d o s i
    have hos := (ho s hs).2
    have eo : off (nI i).toNatClampNeg + nI (qj_wk d (i * 8 + s)) = nI (o i + qj_wk d (i * 8 + s)) := by
      rw [nI_clamp (by omega), (ho i (by omega)).1, nI_add]
    refine br_f (nI_ge (b := 8) (by omega) (by decide)) ⟨pk_in (i * 8 + s) 64 (by omega) (qj_ix8 i s), nm_r (e' := nI (qj_wk d (i * 8 + s))) (by rw [qj_ix8, nI_clamp (by omega)]; exact rfl) ?_⟩
    refine pk_le (qj_wk d (i * 8 + s)) 0 (fun h0 => nm_r (nI_1 i) ?_) (fun h0 => ⟨pk_in i 8 (by omega), ?_⟩)
    · rw [qj_wf, if_neg (by omega)] at ih1
      exact ih1
    · refine pk_le (qj_wf d o s i) (o i + qj_wk d (i * 8 + s)) (fun h1 => nm_r (nI_1 i) ?_) (fun h1 => ⟨pk_in i 8 (by omega), nm_r eo (nm_r (nI_1 i) ?_)⟩) rfl eo
      · rw [qj_wf, if_neg (by omega)] at ih1
        exact ih1
      · rw [qj_wf, if_pos (by omega)] at ih1
        exact ih1
theorem qx_walk2 (post : SX → Prop) {d : qj_D} (hd : qj_ok d) (lt off : Nat → Int32) {o : Nat → Nat} (ho : ∀ s, s < 8 → off s = nI (o s) ∧ o s ≤ 1000000)
    (h : ∀ rch', (∀ j, j < 8 → rch' j = nI (qj_wf d o j 8)) → post (qx_S d lt off rch')) :
    ∀ e s rch, s + e = 8 → (∀ j, j < s → rch j = nI (qj_wf d o j 8)) → wX_walk_2 post (nI (qj_L d)) (nI (qj_T d)) (e + 1) (nI s) (qa_stp d) (qa_aft d) (qa_len d) lt (qa_tl d) (qa_st d) (qa_wk d) off rch := by
  intro e
  induction e with
  | zero =>
    intro s rch hs hr
    have es : s = 8 := by omega
    subst es
    exact br_t (nI_le (b := 8) (a := 8) (by omega) (by decide)) (h rch hr)
  | succ e ih =>
    intro s rch hs hr
    refine br_f (nI_ge (b := 8) (by omega) (by decide)) ⟨pk_in s 8 (by omega), nm_r (e' := nI (qj_wf d o s 0)) (by rw [nI_clamp (by omega), (ho s (by omega)).1]; exact rfl) ⟨9, ?_⟩⟩
    refine qx_walk17 post _ hd lt off rch ho (by omega) ?_ 8 0 (by omega)
    refine ih (s + 1) _ (by omega) ?_
    intro j hj
    by_cases e : j = s
    · subst e; exact pk_us
    · rw [pk_un e]; exact hr j (by omega)
theorem qx_walk (post : SX → Prop) {d : qj_D} (hd : qj_ok d) (lt off rch : Nat → Int32) {o : Nat → Nat} (ho : ∀ s, s < 8 → off s = nI (o s) ∧ o s ≤ 1000000)
    (h : ∀ rch', (∀ j, j < 8 → rch' j = nI (qj_wf d o j 8)) → post (qx_S d lt off rch')) : wpX_walk post (qx_S d lt off rch) :=
  ⟨9, qx_walk2 post hd lt off ho h 8 0 rch (by omega) (fun j hj => absurd hj (by omega))⟩
/-- the component's scratch after K rides from a at t -/
def qx_At (d : qj_D) (a t K : Nat) (off rch : Nat → Int32) : Prop := ∃ o r : Nat → Nat,
  (∀ s, s < 8 → off s = nI (o s) ∧ qj_Is 1000000 (qj_C d a t K s) (o s)) ∧ (∀ s, s < 8 → rch s = nI (r s) ∧ qj_Is 1000000 (qj_H d (qj_C d a t K) s) (r s))
theorem qx_walkAt (post : SX → Prop) {d : qj_D} (hd : qj_ok d) {a t K : Nat} (lt off rch : Nat → Int32) {o : Nat → Nat} (ho : ∀ s, s < 8 → off s = nI (o s) ∧ qj_Is 1000000 (qj_C d a t K s) (o s))
    (h : ∀ rch', qx_At d a t K off rch' → post (qx_S d lt off rch')) : wpX_walk post (qx_S d lt off rch) :=
  qx_walk post hd lt off rch (fun s hs => ⟨(ho s hs).1, (ho s hs).2.1⟩) (fun rch' hr => h rch' ⟨o, fun s => qj_wf d o s 8, ho, fun s hs => ⟨hr s hs, qj_wf_is (fun s hs => (ho s hs).2) hs⟩⟩)
theorem qx_begin2 (post : SX → Prop) {d : qj_D} (hd : qj_ok d) {a t : Nat} (ha : a < 8) (ht : t ≤ 1000) (lt rch : Nat → Int32)
    (h : ∀ off' rch', qx_At d a t 0 off' rch' → post (qx_S d lt off' rch')) :
    ∀ e i off, i + e = 8 → (∀ j, j < i → off j = nI 1000000) → wX_beginAt_2 post (nI a) (nI t) (nI (qj_L d)) (nI (qj_T d)) (e + 1) (nI i) (qa_stp d) (qa_aft d) (qa_len d) lt (qa_tl d) (qa_st d) (qa_wk d) off rch := by
  intro e
  induction e with
  | zero =>
    intro i off hi hoff
    have ei : i = 8 := by omega
    subst ei
    refine br_t (nI_le (b := 8) (a := 8) (by omega) (by decide)) ⟨pk_in a 8 ha, nm_r (e' := upd off a (nI t)) (by rw [nI_clamp (by omega)]) ?_⟩
    refine qx_walkAt (a := a) (t := t) (K := 0) (o := fun s => if s = a then t else 1000000) _ hd lt (upd off a (nI t)) rch ?_ (fun rch' hr => h _ rch' hr)
    intro s hs
    by_cases e : s = a
    · subst e
      refine ⟨?_, ?_⟩
      · rw [pk_us, if_pos rfl]
      · rw [if_pos rfl]
        refine ⟨by omega, fun τ hτ => ⟨fun hh => ⟨0, Nat.le_refl 0, rfl, hh⟩, ?_⟩⟩
        rintro ⟨k, hk, hO⟩
        have ek : k = 0 := by omega
        subst ek
        exact hO.2
    · refine ⟨?_, ?_⟩
      · rw [pk_un e, if_neg e]; exact hoff s hs
      · rw [if_neg e]
        refine ⟨Nat.le_refl _, fun τ hτ => ⟨fun hh => by omega, ?_⟩⟩
        rintro ⟨k, hk, hO⟩
        have ek : k = 0 := by omega
        subst ek
        exact absurd hO.1 e
  | succ e ih =>
    intro i off hi hoff
    refine br_f (nI_ge (b := 8) (by omega) (by decide)) ⟨pk_in i 8 (by omega), nm_r (e' := upd off i (nI 1000000)) (by rw [nI_clamp (by omega)]; exact rfl) (nm_r (nI_1 i) ?_)⟩
    refine ih (i + 1) _ (by omega) ?_
    intro j hj
    by_cases e : j = i
    · subst e; exact pk_us
    · rw [pk_un e]; exact hoff j (by omega)
theorem qx_beginAt (post : SX → Prop) {d : qj_D} (hd : qj_ok d) {a t : Nat} (ha : a < 8) (ht : t ≤ 1000) (lt off rch : Nat → Int32)
    (h : ∀ off' rch', qx_At d a t 0 off' rch' → post (qx_S d lt off' rch')) : wpX_beginAt post (qx_S d lt off rch) (nI a) (nI t) :=
  ⟨9, qx_begin2 post hd ha ht lt rch h 8 0 off (by omega) (fun j hj => absurd hj (by omega))⟩
