/-- a ride with trip m that ends at one of its first i places, boarded by the times r -/
def qj_P (d : qj_D) (r : Nat → Nat) (m i s τ : Nat) : Prop :=
  ∃ i' j, i' < j ∧ j < i ∧ r (qj_stp d (qj_tl d m * 6 + i')) ≤ qj_st d m + qj_aft d (qj_tl d m * 6 + i') ∧
    qj_stp d (qj_tl d m * 6 + j) = s ∧ qj_st d m + qj_aft d (qj_tl d m * 6 + j) ≤ τ
/-- trip m can be boarded at one of its first i places -/
def qj_B (d : qj_D) (r : Nat → Nat) (m i : Nat) : Prop :=
  ∃ i', i' < i ∧ r (qj_stp d (qj_tl d m * 6 + i')) ≤ qj_st d m + qj_aft d (qj_tl d m * 6 + i')
theorem qj_P_0 {d : qj_D} {r : Nat → Nat} {m s τ : Nat} : ¬ qj_P d r m 0 s τ := by
  rintro ⟨i', j, h1, h2, _⟩
  omega
theorem qj_P_s {d : qj_D} {r : Nat → Nat} {m i s τ : Nat} : qj_P d r m (i + 1) s τ ↔ (qj_P d r m i s τ ∨ (qj_B d r m i ∧ qj_stp d (qj_tl d m * 6 + i) = s ∧ qj_st d m + qj_aft d (qj_tl d m * 6 + i) ≤ τ)) := by
  constructor
  · rintro ⟨i', j, h1, h2, h3, h4, h5⟩
    by_cases e : j = i
    · subst e
      exact Or.inr ⟨⟨i', h1, h3⟩, h4, h5⟩
    · exact Or.inl ⟨i', j, h1, by omega, h3, h4, h5⟩
  · rintro (⟨i', j, h1, h2, h3, h4, h5⟩ | ⟨⟨i', h1, h3⟩, h4, h5⟩)
    · exact ⟨i', j, h1, by omega, h3, h4, h5⟩
    · exact ⟨i', i, h1, by omega, h3, h4, h5⟩
theorem qj_B_s {d : qj_D} {r : Nat → Nat} {m i : Nat} : qj_B d r m (i + 1) ↔ (qj_B d r m i ∨ r (qj_stp d (qj_tl d m * 6 + i)) ≤ qj_st d m + qj_aft d (qj_tl d m * 6 + i)) := by
  constructor
  · rintro ⟨i', h1, h2⟩
    by_cases e : i' = i
    · subst e; exact Or.inr h2
    · exact Or.inl ⟨i', by omega, h2⟩
  · rintro (⟨i', h1, h2⟩ | h2)
    · exact ⟨i', by omega, h2⟩
    · exact ⟨i, by omega, h2⟩
theorem qj_tm_le {d : qj_D} (hd : qj_ok d) {m i : Nat} (hi : i < qj_len d (qj_tl d m)) : qj_st d m + qj_aft d (qj_tl d m * 6 + i) ≤ 650 := by
  have h1 := qj_ok_aft hd (qj_ok_tl hd m) hi
  have h2 := qj_ok_len hd (qj_tl d m)
  have h3 := qj_ok_st hd m
  omega
theorem qj_P_R {d : qj_D} (hd : qj_ok d) {F : Nat} {h : Nat → Nat → Prop} {r : Nat → Nat} (hF : 1000 ≤ F) (hr : ∀ s, s < 8 → qj_Is F (h s) (r s)) {m s τ : Nat} : qj_P d r m (qj_len d (qj_tl d m)) s τ ↔ qj_R d h m s τ := by
  constructor
  · rintro ⟨i', j, h1, h2, h3, h4, h5⟩
    have ht := qj_tm_le hd (m := m) (i := i') (by omega)
    exact ⟨i', j, h1, h2, ((hr _ (qj_ok_stp hd _)).2 _ (by omega)).mp h3, h4, h5⟩
  · rintro ⟨i', j, h1, h2, h3, h4, h5⟩
    have ht := qj_tm_le hd (m := m) (i := i') (by omega)
    exact ⟨i', j, h1, h2, ((hr _ (qj_ok_stp hd _)).2 _ (by omega)).mpr h3, h4, h5⟩
theorem qx_board28 (post : SX → Prop) {d : qj_D} (hd : qj_ok d) (lt rch : Nat → Int32) {m : Nat} (hm : m < 12) {o0 r : Nat → Nat} (hr : ∀ s, s < 8 → rch s = nI (r s) ∧ r s ≤ 1000000)
    (h : ∀ (off' : Nat → Int32) (o' : Nat → Nat), (∀ s, s < 8 → off' s = nI (o' s) ∧ o' s ≤ 1000000) → (∀ s, s < 8 → ∀ τ, o' s ≤ τ ↔ (o0 s ≤ τ ∨ qj_P d r m (qj_len d (qj_tl d m)) s τ)) → post (qx_S d lt off' rch)) :
    ∀ (e i : Nat) (off : Nat → Int32) (o : Nat → Nat) (ab : Int32), i + e = qj_len d (qj_tl d m) → (∀ s, s < 8 → off s = nI (o s) ∧ o s ≤ 1000000) → (∀ s, s < 8 → ∀ τ, o s ≤ τ ↔ (o0 s ≤ τ ∨ qj_P d r m i s τ)) → (ab = 0 ↔ ¬ qj_B d r m i) →
      wX_board_28 post (nI m) (nI (qj_tl d m * 6)) (nI (qj_len d (qj_tl d m))) (nI (qj_L d)) (nI (qj_T d)) (e + 1) ab (nI i) (qa_stp d) (qa_aft d) (qa_len d) lt (qa_tl d) (qa_st d) (qa_wk d) off rch := by
  have hlen := qj_ok_len hd (qj_tl d m)
  have htl := qj_ok_tl hd m
  intro e
  induction e with
  | zero =>
    intro i off o ab hi ho hinv hab
    have ei : i = qj_len d (qj_tl d m) := by omega
    subst ei
    exact br_t (nI_le (by omega) (by omega)) (h off o ho hinv)
  | succ e ih =>
    intro i off o ab hi ho hinv hab
    have hS := qj_ok_stp hd (qj_tl d m * 6 + i)
    have hT := qj_tm_le hd (m := m) (i := i) (by omega)
    have eix : nI (qj_tl d m * 6) + nI i = nI (qj_tl d m * 6 + i) := nI_add _ _
    have ein : vp_in (nI (qj_tl d m * 6) + nI i) 30 := pk_in (qj_tl d m * 6 + i) 30 (by omega) eix
    have eS : qa_stp d (nI (qj_tl d m * 6) + nI i).toNatClampNeg = nI (qj_stp d (qj_tl d m * 6 + i)) := by
      rw [eix, nI_clamp (by omega)]; exact rfl
    have eT : qa_st d (nI m).toNatClampNeg + qa_aft d (nI (qj_tl d m * 6) + nI i).toNatClampNeg = nI (qj_st d m + qj_aft d (qj_tl d m * 6 + i)) := by
      rw [eix, nI_clamp (by omega), nI_clamp (by omega)]; exact nI_add _ _
    have eR : rch (nI (qj_stp d (qj_tl d m * 6 + i))).toNatClampNeg = nI (r (qj_stp d (qj_tl d m * 6 + i))) := by
      rw [nI_clamp (by omega), (hr _ hS).1]
    have eO : off (nI (qj_stp d (qj_tl d m * 6 + i))).toNatClampNeg = nI (o (qj_stp d (qj_tl d m * 6 + i))) := by
      rw [nI_clamp (by omega), (ho _ hS).1]
    have hrS := (hr _ hS).2
    have hoS := (ho _ hS).2
    have key : ∀ (off' : Nat → Int32) (o' : Nat → Nat), (∀ s, s < 8 → off' s = nI (o' s) ∧ o' s ≤ 1000000) → (∀ s, s < 8 → ∀ τ, o' s ≤ τ ↔ (o0 s ≤ τ ∨ qj_P d r m (i + 1) s τ)) →
        wX_board_89 post (wX_board_28 post (nI m) (nI (qj_tl d m * 6)) (nI (qj_len d (qj_tl d m))) (nI (qj_L d)) (nI (qj_T d)) (e + 1)) (nI m) (nI (qj_tl d m * 6)) (nI (qj_len d (qj_tl d m))) ab (nI i) (nI (qj_stp d (qj_tl d m * 6 + i))) (nI (qj_st d m + qj_aft d (qj_tl d m * 6 + i))) (nI (qj_L d)) (nI (qj_T d)) (qa_stp d) (qa_aft d) (qa_len d) lt (qa_tl d) (qa_st d) (qa_wk d) off' rch := by
      intro off' o' ho' hinv'
      refine ⟨pk_in (qj_stp d (qj_tl d m * 6 + i)) 8 hS, pk_lt (qj_st d m + qj_aft d (qj_tl d m * 6 + i)) (r (qj_stp d (qj_tl d m * 6 + i))) (fun hlt => nm_r (nI_1 i) (ih (i + 1) off' o' ab (by omega) ho' hinv' ?_)) (fun hge => nm_r (nI_1 i) (ih (i + 1) off' o' 1 (by omega) ho' hinv' ?_)) rfl eR⟩
      · rw [hab, qj_B_s]
        exact ⟨fun hn hh => hh.elim hn (fun h2 => by omega), fun hn hb => hn (Or.inl hb)⟩
      · exact ⟨fun hh => absurd hh (by decide), fun hn => absurd (qj_B_s.mpr (Or.inr hge)) hn⟩
    refine br_f (nI_ge (by omega) (by omega)) ⟨ein, nm_r eS ⟨pk_in m 12 hm, ein, nm_r eT ?_⟩⟩
    by_cases hz : ab = 0
    · refine br_t hz (key off o ho ?_)
      intro s hs τ
      rw [hinv s hs τ, qj_P_s]
      exact ⟨fun hh => hh.elim Or.inl (fun h2 => Or.inr (Or.inl h2)), fun hh => hh.elim Or.inl (fun h2 => h2.elim Or.inr (fun h3 => absurd h3.1 (hab.mp hz)))⟩
    · have hB : qj_B d r m i := Classical.byContradiction (fun hn => hz (hab.mpr hn))
      refine br_f hz ⟨pk_in (qj_stp d (qj_tl d m * 6 + i)) 8 hS, pk_le (o (qj_stp d (qj_tl d m * 6 + i))) (qj_st d m + qj_aft d (qj_tl d m * 6 + i)) (fun hle => key off o ho ?_) (fun hgt => ⟨pk_in (qj_stp d (qj_tl d m * 6 + i)) 8 hS, nm_r (e' := upd off (qj_stp d (qj_tl d m * 6 + i)) (nI (qj_st d m + qj_aft d (qj_tl d m * 6 + i)))) (by rw [nI_clamp (by omega)]) (key _ (fun s => if s = qj_stp d (qj_tl d m * 6 + i) then qj_st d m + qj_aft d (qj_tl d m * 6 + i) else o s) ?_ ?_)⟩) eO rfl⟩
      · intro s hs τ
        rw [qj_P_s]
        constructor
        · intro hh
          exact ((hinv s hs τ).mp hh).elim Or.inl (fun h2 => Or.inr (Or.inl h2))
        · rintro (h1 | h2 | ⟨_, h3, h4⟩)
          · exact (hinv s hs τ).mpr (Or.inl h1)
          · exact (hinv s hs τ).mpr (Or.inr h2)
          · rw [← h3]; omega
      · intro s hs
        by_cases es : s = qj_stp d (qj_tl d m * 6 + i)
        · rw [if_pos es, es]
          exact ⟨pk_us, by omega⟩
        · rw [if_neg es, pk_un es]
          exact ho s hs
      · intro s hs τ
        rw [qj_P_s]
        by_cases es : s = qj_stp d (qj_tl d m * 6 + i)
        · rw [if_pos es]
          constructor
          · exact fun hh => Or.inr (Or.inr ⟨hB, es.symm, hh⟩)
          · rintro (h1 | h2 | ⟨_, h3, h4⟩)
            · have := (hinv s hs τ).mpr (Or.inl h1); rw [es] at this; omega
            · have := (hinv s hs τ).mpr (Or.inr h2); rw [es] at this; omega
            · exact h4
        · rw [if_neg es]
          constructor
          · intro hh
            exact ((hinv s hs τ).mp hh).elim Or.inl (fun h2 => Or.inr (Or.inl h2))
          · rintro (h1 | h2 | ⟨_, h3, h4⟩)
            · exact (hinv s hs τ).mpr (Or.inl h1)
            · exact (hinv s hs τ).mpr (Or.inr h2)
            · exact absurd h3.symm es
theorem qx_board (post : SX → Prop) {d : qj_D} (hd : qj_ok d) (lt off rch : Nat → Int32) {m : Nat} (hm : m < 12) {o r : Nat → Nat} (ho : ∀ s, s < 8 → off s = nI (o s) ∧ o s ≤ 1000000) (hr : ∀ s, s < 8 → rch s = nI (r s) ∧ r s ≤ 1000000)
    (h : ∀ (off' : Nat → Int32) (o' : Nat → Nat), (∀ s, s < 8 → off' s = nI (o' s) ∧ o' s ≤ 1000000) → (∀ s, s < 8 → ∀ τ, o' s ≤ τ ↔ (o s ≤ τ ∨ qj_P d r m (qj_len d (qj_tl d m)) s τ)) → post (qx_S d lt off' rch)) : wpX_board post (qx_S d lt off rch) (nI m) := by
  have htl := qj_ok_tl hd m
  have e1 : qa_tl d (nI m).toNatClampNeg = nI (qj_tl d m) := by rw [nI_clamp (by omega)]; exact rfl
  refine ⟨pk_in m 12 hm, nm_r (e' := nI (qj_tl d m * 6)) (by rw [e1, qj_x6]) ⟨pk_in m 12 hm, pk_in (qj_tl d m) 5 htl e1, nm_r (e' := nI (qj_len d (qj_tl d m))) (by rw [e1, nI_clamp (by omega)]; exact rfl) ⟨qj_len d (qj_tl d m) + 1, ?_⟩⟩⟩
  refine qx_board28 post hd lt rch hm hr h (qj_len d (qj_tl d m)) 0 off o 0 (by omega) ho ?_ ?_
  · exact fun s hs τ => ⟨Or.inl, fun hh => hh.elim id (fun h2 => absurd h2 qj_P_0)⟩
  · refine ⟨fun _ => ?_, fun _ => rfl⟩
    rintro ⟨i', h1, _⟩
    omega
theorem qx_ride2 (post : SX → Prop) {d : qj_D} (hd : qj_ok d) {a t K : Nat} (lt rch : Nat → Int32) {o0 r : Nat → Nat}
    (ho0 : ∀ s, s < 8 → qj_Is 1000000 (qj_C d a t K s) (o0 s)) (hr : ∀ s, s < 8 → rch s = nI (r s) ∧ qj_Is 1000000 (qj_H d (qj_C d a t K) s) (r s))
    (h : ∀ off' rch', qx_At d a t (K + 1) off' rch' → post (qx_S d lt off' rch')) :
    ∀ (e i : Nat) (off : Nat → Int32) (o : Nat → Nat), i + e = qj_T d → (∀ s, s < 8 → off s = nI (o s) ∧ o s ≤ 1000000) → (∀ s, s < 8 → ∀ τ, o s ≤ τ ↔ (o0 s ≤ τ ∨ ∃ m, m < i ∧ qj_P d r m (qj_len d (qj_tl d m)) s τ)) →
      wX_rideOnce_2 post (e + 1) (nI i) (nI (qj_L d)) (nI (qj_T d)) (qa_stp d) (qa_aft d) (qa_len d) lt (qa_tl d) (qa_st d) (qa_wk d) off rch := by
  have hT := qj_ok_T hd
  intro e
  induction e with
  | zero =>
    intro i off o hi ho hinv
    have ei : i = qj_T d := by omega
    subst ei
    refine br_t (nI_le (by omega) (by omega)) ?_
    refine qx_walkAt (a := a) (t := t) (K := K + 1) (o := o) _ hd lt off rch ?_ (fun rch' hr' => h _ rch' hr')
    intro s hs
    refine ⟨(ho s hs).1, (ho s hs).2, fun τ hτ => ?_⟩
    rw [hinv s hs τ, (ho0 s hs).2 τ hτ, qj_C_step]
    constructor
    · rintro (h1 | ⟨m, hm, h2⟩)
      · exact Or.inl h1
      · exact Or.inr ⟨m, hm, (qj_P_R hd (by omega) (fun s hs => (hr s hs).2)).mp h2⟩
    · rintro (h1 | ⟨m, hm, h2⟩)
      · exact Or.inl h1
      · exact Or.inr ⟨m, hm, (qj_P_R hd (by omega) (fun s hs => (hr s hs).2)).mpr h2⟩
  | succ e ih =>
    intro i off o hi ho hinv
    refine br_f (nI_ge (by omega) (by omega)) ?_
    refine qx_board _ hd lt off rch (by omega) ho (fun s hs => ⟨(hr s hs).1, (hr s hs).2.1⟩) ?_
    intro off' o' ho' hinv'
    show ∀ x1 : Int32, x1 = nI i + 1 → wX_rideOnce_2 post (e + 1) x1 (nI (qj_L d)) (nI (qj_T d)) (qa_stp d) (qa_aft d) (qa_len d) lt (qa_tl d) (qa_st d) (qa_wk d) off' rch
    refine nm_r (nI_1 i) (ih (i + 1) off' o' (by omega) ho' ?_)
    intro s hs τ
    rw [hinv' s hs τ, hinv s hs τ]
    constructor
    · rintro ((h1 | ⟨m, hm, h2⟩) | h3)
      · exact Or.inl h1
      · exact Or.inr ⟨m, by omega, h2⟩
      · exact Or.inr ⟨i, by omega, h3⟩
    · rintro (h1 | ⟨m, hm, h2⟩)
      · exact Or.inl (Or.inl h1)
      · by_cases em : m = i
        · subst em; exact Or.inr h2
        · exact Or.inl (Or.inr ⟨m, by omega, h2⟩)
theorem qx_rideOnce (post : SX → Prop) {d : qj_D} (hd : qj_ok d) {a t K : Nat} (lt off rch : Nat → Int32) (hAt : qx_At d a t K off rch)
    (h : ∀ off' rch', qx_At d a t (K + 1) off' rch' → post (qx_S d lt off' rch')) : wpX_rideOnce post (qx_S d lt off rch) := by
  obtain ⟨o, r, ho, hr⟩ := hAt
  refine ⟨qj_T d + 1, qx_ride2 post hd lt rch (fun s hs => (ho s hs).2) hr h (qj_T d) 0 off o (by omega) (fun s hs => ⟨(ho s hs).1, (ho s hs).2.1⟩) ?_⟩
  intro s hs τ
  refine ⟨Or.inl, ?_⟩
  rintro (h1 | ⟨m, hm, _⟩)
  · exact h1
  · omega
theorem qx_search9 (post : SX → Prop) {d : qj_D} (hd : qj_ok d) {a t K : Nat} (hK : K ≤ 12) (lt : Nat → Int32)
    (h : ∀ off' rch', qx_At d a t K off' rch' → post (qx_S d lt off' rch')) :
    ∀ e i off rch, i + e = K → qx_At d a t i off rch → wX_search_9 post (nI K) (e + 1) (nI i) (nI (qj_L d)) (nI (qj_T d)) (qa_stp d) (qa_aft d) (qa_len d) lt (qa_tl d) (qa_st d) (qa_wk d) off rch := by
  intro e
  induction e with
  | zero =>
    intro i off rch hi hAt
    have ei : i = K := by omega
    subst ei
    exact br_t (nI_le (by omega) (by omega)) (h off rch hAt)
  | succ e ih =>
    intro i off rch hi hAt
    refine br_f (nI_ge (by omega) (by omega)) ?_
    refine qx_rideOnce _ hd lt off rch hAt ?_
    intro off' rch' hAt'
    show ∀ x1 : Int32, x1 = nI i + 1 → wX_search_9 post (nI K) (e + 1) x1 (nI (qj_L d)) (nI (qj_T d)) (qa_stp d) (qa_aft d) (qa_len d) lt (qa_tl d) (qa_st d) (qa_wk d) off' rch'
    exact nm_r (nI_1 i) (ih (i + 1) off' rch' (by omega) hAt')
theorem qx_search (post : SX → Prop) {d : qj_D} (hd : qj_ok d) {a t K : Nat} (ha : a < 8) (ht : t ≤ 1000) (hK : K ≤ 12) (lt off rch : Nat → Int32)
    (h : ∀ off' rch', qx_At d a t K off' rch' → post (qx_S d lt off' rch')) : wpX_search post (qx_S d lt off rch) (nI a) (nI t) (nI K) := by
  refine qx_beginAt _ hd ha ht lt off rch ?_
  intro off' rch' hAt
  exact ⟨K + 1, qx_search9 post hd hK lt h K 0 off' rch' (by omega) hAt⟩
theorem qx_search_neg (post : SX → Prop) {d : qj_D} (hd : qj_ok d) {a t : Nat} (ha : a < 8) (ht : t ≤ 1000) {p : Int32} (hp : p ≤ 0) (lt off rch : Nat → Int32)
    (h : ∀ off' rch', qx_At d a t 0 off' rch' → post (qx_S d lt off' rch')) : wpX_search post (qx_S d lt off rch) (nI a) (nI t) p := by
  refine qx_beginAt _ hd ha ht lt off rch ?_
  intro off' rch' hAt
  exact ⟨1, br_t hp (h off' rch' hAt)⟩
