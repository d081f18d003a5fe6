/-! steps of the loops that remove, reach, and use -/
def ph_rm (p : Nat) (I K V U : Nat → Int32) (i : Nat) (K' V' U' : Nat → Int32) : Prop :=
  (∀ q, q < 21 → K' q = K q ∧ V' q = V q) ∧
  (∀ s, s < 60 → 20 * p ≤ s ∧ s < 20 * p + i ∧ I s = 0 → U' s = 0 ∧ ∀ b, b < 2 → K' (21 + 2 * s + b) = 0 ∧ V' (21 + 2 * s + b) = 0) ∧
  (∀ s, s < 60 → ¬ (20 * p ≤ s ∧ s < 20 * p + i ∧ I s = 0) → U' s = U s ∧ ∀ b, b < 2 → K' (21 + 2 * s + b) = K (21 + 2 * s + b) ∧ V' (21 + 2 * s + b) = V (21 + 2 * s + b))
theorem ph_rm_0 {p : Nat} {I K V U : Nat → Int32} : ph_rm p I K V U 0 K V U :=
  ⟨fun _ _ => ⟨rfl, rfl⟩, fun s _ h => absurd h (by omega), fun _ _ _ => ⟨rfl, fun _ _ => ⟨rfl, rfl⟩⟩⟩
theorem ph_rm_n {p i : Nat} {I K V U K' V' U' : Nat → Int32} (h : ph_rm p I K V U i K' V' U') (hI : ¬ I (20 * p + i) = 0) : ph_rm p I K V U (i + 1) K' V' U' := by
  obtain ⟨h1, h2, h3⟩ := h
  refine ⟨h1, fun s hs z => ?_, fun s hs z => ?_⟩
  · by_cases e : s = 20 * p + i
    · rw [e] at z
      exact absurd z.2.2 hI
    · exact h2 s hs ⟨z.1, by omega, z.2.2⟩
  · exact h3 s hs (fun w => z ⟨w.1, by omega, w.2.2⟩)
theorem ph_rm_s {p i s : Nat} {I K V U K' V' U' : Nat → Int32} (h : ph_rm p I K V U i K' V' U') (hI : I (20 * p + i) = 0) (hs : s = 20 * p + i) : ph_rm p I K V U (i + 1) (upd (upd K' (21 + 2 * s) 0) (21 + 2 * s + 1) 0) (upd (upd V' (21 + 2 * s) 0) (21 + 2 * s + 1) 0) (upd U' s 0) := by
  obtain ⟨h1, h2, h3⟩ := h
  rw [← hs] at hI
  refine ⟨fun q hq => ?_, fun s' hs' z => ?_, fun s' hs' z => ?_⟩
  · rw [pk_un (by omega), pk_un (by omega), pk_un (by omega), pk_un (by omega)]
    exact h1 q hq
  · by_cases e : s' = s
    · rw [e]
      refine ⟨pk_us, fun b hb => ?_⟩
      by_cases b0 : b = 0
      · subst b0
        exact ⟨(pk_un (by omega)).trans pk_us, (pk_un (by omega)).trans pk_us⟩
      · have b1 : b = 1 := by omega
        subst b1
        exact ⟨pk_us, pk_us⟩
    · obtain ⟨g1, g2⟩ := h2 s' hs' ⟨z.1, by omega, z.2.2⟩
      refine ⟨by rw [pk_un e]; exact g1, fun b hb => ?_⟩
      rw [pk_un (by omega), pk_un (by omega), pk_un (by omega), pk_un (by omega)]
      exact g2 b hb
  · have e : s' ≠ s := fun w => z (by rw [w]; exact ⟨by omega, by omega, hI⟩)
    obtain ⟨g1, g2⟩ := h3 s' hs' (fun w => z ⟨w.1, by omega, w.2.2⟩)
    refine ⟨by rw [pk_un e]; exact g1, fun b hb => ?_⟩
    rw [pk_un (by omega), pk_un (by omega), pk_un (by omega), pk_un (by omega)]
    exact g2 b hb
theorem ph_rm_e {p : Nat} {I K V U K' V' U' : Nat → Int32} (h : ph_rm p I K V U 20 K' V' U') (hl : ph_lf K V (ph_xr p K V) (fun s => ¬ I s = 0)) : ph_xc p K V U K' V' U' := by
  obtain ⟨h1, h2, h3⟩ := h
  refine ⟨_, hl, fun s hs => ?_, h1, fun s b hs hb z => ?_, fun s b hs hb z z' => ?_⟩
  · by_cases w : 20 * p ≤ s ∧ s < 20 * p + 20 ∧ I s = 0
    · obtain ⟨g, _⟩ := h2 s hs w
      exact ⟨fun y => absurd g y, fun y => absurd w.2.2 (y.2 (by omega))⟩
    · obtain ⟨g, _⟩ := h3 s hs w
      rw [g]
      exact ⟨fun y => ⟨y, fun e x => w ⟨by omega, by omega, x⟩⟩, fun y => y.1⟩
  · exact (h3 s hs (fun w => z (by omega) w.2.2)).2 b hb
  · exact (h2 s hs ⟨by omega, by omega, Classical.byContradiction z'⟩).2 b hb
/-- Y's roots, ahead of place y -/
def ph_yk (p : Nat) (k c u : Nat → Int32) (N : Nat → Nat) (y : Nat) (R : Nat → Int32) : Prop := ∀ t, t < 60 → (¬ R t = 0 ↔ ∃ y', y' < y ∧ ph_yo y' = p ∧ ph_th u N y' ∧ ph_ho k c y' t)
theorem ph_yk_0 {p : Nat} {k c u R : Nat → Int32} {N : Nat → Nat} (h : ∀ t, t < 60 → R t = 0) : ph_yk p k c u N 0 R := fun t ht => ⟨fun z => absurd (h t ht) z, fun ⟨_, hy, _⟩ => absurd hy (by omega)⟩
theorem ph_yk_n {p y : Nat} {k c u R : Nat → Int32} {N : Nat → Nat} (h : ph_yk p k c u N y R) (hn : ¬ (ph_yo y = p ∧ k y = 2 ∧ ph_th u N y)) : ph_yk p k c u N (y + 1) R := by
  intro t ht
  rw [h t ht]
  constructor
  · intro ⟨y', h1, h2⟩
    exact ⟨y', by omega, h2⟩
  · intro ⟨y', h1, h2, h3, h4⟩
    by_cases e : y' = y
    · rw [e] at h2 h3 h4
      exact absurd ⟨h2, h4.1, h3⟩ hn
    · exact ⟨y', by omega, h2, h3, h4⟩
theorem ph_yk_s {p y s : Nat} {k c u R : Nat → Int32} {N : Nat → Nat} (h : ph_yk p k c u N y R) (ho : ph_yo y = p) (hk : k y = 2) (ht : ph_th u N y) (hs : s < 60) (hc : c y = nI s) {x : Int32} (hx : ¬ x = 0) : ph_yk p k c u N (y + 1) (upd R s x) := by
  intro t h60
  by_cases e : t = s
  · rw [e, pk_us]
    exact ⟨fun _ => ⟨y, by omega, ho, ht, hk, hc⟩, fun _ => hx⟩
  · rw [pk_un e, h t h60]
    constructor
    · intro ⟨y', h1, h2⟩
      exact ⟨y', by omega, h2⟩
    · intro ⟨y', h1, h2, h3, h4⟩
      by_cases e' : y' = y
      · rw [e'] at h4
        exact absurd (ph_inj (by omega) (by omega) (h4.2.symm.trans hc)) e
      · exact ⟨y', by omega, h2, h3, h4⟩
/-- Y's use of what it reached -/
def ph_yu (p : Nat) (R u : Nat → Int32) (i : Nat) (u' : Nat → Int32) : Prop := ∀ t, t < 60 → (¬ u' t = 0 ↔ ¬ u t = 0 ∧ (20 * p ≤ t ∧ t < 20 * p + i → ¬ R t = 0))
theorem ph_yu_0 {p : Nat} {R u : Nat → Int32} : ph_yu p R u 0 u := fun t _ => ⟨fun z => ⟨z, fun w => absurd w (by omega)⟩, fun z => z.1⟩
theorem ph_yu_s {p i : Nat} {R u u' : Nat → Int32} (h : ph_yu p R u i u') {x : Int32} (hp : 20 * p + i < 60) (hx : ¬ x = 0 ↔ ¬ u' (20 * p + i) = 0 ∧ ¬ R (20 * p + i) = 0) : ph_yu p R u (i + 1) (upd u' (20 * p + i) x) := by
  intro t ht
  by_cases e : t = 20 * p + i
  · rw [e, pk_us, hx, h _ hp]
    exact ⟨fun z => ⟨z.1.1, fun _ => z.2⟩, fun z => ⟨⟨z.1, fun w => absurd w (by omega)⟩, z.2 (by omega)⟩⟩
  · rw [pk_un e, h t ht]
    exact ⟨fun z => ⟨z.1, fun w => z.2 (by omega)⟩, fun z => ⟨z.1, fun w => z.2 (by omega)⟩⟩
theorem ph_yu_e {p : Nat} {k c u R u' : Nat → Int32} {N : Nat → Nat} (h : ph_yu p R u 20 u') (hl : ph_lf k c (ph_yr p k c u N) (fun t => ¬ R t = 0)) : ph_yc p k c u N u' := by
  refine ⟨_, hl, fun t ht => ?_⟩
  rw [h t ht]
  exact ⟨fun z => ⟨z.1, fun w => z.2 (by omega)⟩, fun z => ⟨z.1, fun w => z.2 (by omega)⟩⟩
