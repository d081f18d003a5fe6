/-! slots for copies, the copies, and the relation behind a send -/
def ph_al (U0 : Nat → Int32) (p : Nat) (D : Nat → Prop) (C U' : Nat → Int32) : Prop :=
  (∀ s, s < 60 → D s → ∃ a, a < 60 ∧ a / 20 = p ∧ C s = nI a ∧ U0 a = 0) ∧
  (∀ s s', s < 60 → s' < 60 → D s → D s' → C s = C s' → s = s') ∧
  (∀ a, a < 60 → (¬ U' a = 0 ↔ ¬ U0 a = 0 ∨ ∃ s, s < 60 ∧ D s ∧ C s = nI a))
theorem ph_al_0 {U0 C : Nat → Int32} {p : Nat} {D : Nat → Prop} (h : ∀ s, s < 60 → ¬ D s) : ph_al U0 p D C U0 :=
  ⟨fun s hs z => absurd z (h s hs), fun s _ hs _ z => absurd z (h s hs), fun _ _ => ⟨fun z => Or.inl z, fun z => z.elim id (fun ⟨s, hs, d, _⟩ => absurd d (h s hs))⟩⟩
theorem ph_al_s {U0 C U' : Nat → Int32} {p : Nat} {D D' : Nat → Prop} (h : ph_al U0 p D C U') {x a : Nat} (hx : x < 60) (hxD : ¬ D x) (ha : a < 60) (hap : a / 20 = p) (hau : U' a = 0) {x0 : Int32} (hx0 : ¬ x0 = 0) (hD : ∀ s, s < 60 → (D' s ↔ D s ∨ s = x)) : ph_al U0 p D' (upd C x (nI a)) (upd U' a x0) := by
  obtain ⟨h1, h2, h3⟩ := h
  have h0 : U0 a = 0 := Classical.byContradiction (fun z => (h3 a ha).mpr (Or.inl z) hau)
  have hn : ∀ s, s < 60 → D s → C s ≠ nI a := fun s hs d z => (h3 a ha).mpr (Or.inr ⟨s, hs, d, z⟩) hau
  have ne : ∀ s, D s → s ≠ x := fun s d z => hxD (z ▸ d)
  refine ⟨?_, ?_, ?_⟩
  · intro s hs d
    rcases (hD s hs).mp d with d | e
    · rw [pk_un (ne s d)]
      exact h1 s hs d
    · rw [e, pk_us]
      exact ⟨a, ha, hap, rfl, h0⟩
  · intro s s' hs hs' d d' e
    rcases (hD s hs).mp d with d | z
    · rcases (hD s' hs').mp d' with d' | z'
      · rw [pk_un (ne s d), pk_un (ne s' d')] at e
        exact h2 s s' hs hs' d d' e
      · rw [pk_un (ne s d), z', pk_us] at e
        exact absurd e (hn s hs d)
    · rcases (hD s' hs').mp d' with d' | z'
      · rw [z, pk_us, pk_un (ne s' d')] at e
        exact absurd e.symm (hn s' hs' d')
      · exact z.trans z'.symm
  · intro b hb
    by_cases e : b = a
    · subst e
      rw [pk_us]
      exact ⟨fun _ => Or.inr ⟨x, hx, (hD x hx).mpr (Or.inr rfl), pk_us⟩, fun _ => hx0⟩
    · rw [pk_un e, h3 b hb]
      constructor
      · intro z
        rcases z with z | ⟨s, hs, d, z⟩
        · exact Or.inl z
        · exact Or.inr ⟨s, hs, (hD s hs).mpr (Or.inl d), by rw [pk_un (ne s d)]; exact z⟩
      · intro z
        rcases z with z | ⟨s, hs, d, z⟩
        · exact Or.inl z
        · rcases (hD s hs).mp d with d | w
          · rw [pk_un (ne s d)] at z
            exact Or.inr ⟨s, hs, d, z⟩
          · rw [w, pk_us] at z
            exact absurd (ph_inj (by omega) (by omega) z).symm e
def ph_cv (K V C : Nat → Int32) (q : Nat) : Int32 := if K q = 2 then C (V q).toNatClampNeg else V q
theorem ph_cv2 {K V C : Nat → Int32} {q s : Nat} (hk : K q = 2) (hv : V q = nI s) (hs : s < 60) : ph_cv K V C q = C s := by
  unfold ph_cv
  rw [if_pos hk, hv, nI_clamp (by omega)]
theorem ph_cvn {K V C : Nat → Int32} {q : Nat} (hk : ¬ K q = 2) : ph_cv K V C q = V q := if_neg hk
def ph_cp (K V C : Nat → Int32) (D : Nat → Prop) (K' V' : Nat → Int32) : Prop :=
  (∀ s a b, s < 60 → a < 60 → b < 2 → D s → C s = nI a → K' (21 + 2 * a + b) = K (21 + 2 * s + b) ∧ V' (21 + 2 * a + b) = ph_cv K V C (21 + 2 * s + b)) ∧
  (∀ q, q < 141 → (∀ s a b, s < 60 → a < 60 → b < 2 → D s → C s = nI a → q ≠ 21 + 2 * a + b) → K' q = K q ∧ V' q = V q)
theorem ph_cp_0 {K V C : Nat → Int32} {D : Nat → Prop} (h : ∀ s, s < 60 → ¬ D s) : ph_cp K V C D K V :=
  ⟨fun s _ _ hs _ _ d => absurd d (h s hs), fun _ _ _ => ⟨rfl, rfl⟩⟩
theorem ph_cp_s {K V C K' V' : Nat → Int32} {D D' : Nat → Prop} (h : ph_cp K V C D K' V') {x a : Nat} (hx : x < 60) (ha : a < 60) (hc : C x = nI a) (hi : ∀ s, s < 60 → D s → C s ≠ nI a) (hD : ∀ s, s < 60 → (D' s ↔ D s ∨ s = x)) :
    ph_cp K V C D' (upd (upd K' (21 + 2 * a) (K (21 + 2 * x))) (21 + 2 * a + 1) (K (21 + 2 * x + 1))) (upd (upd V' (21 + 2 * a) (ph_cv K V C (21 + 2 * x))) (21 + 2 * a + 1) (ph_cv K V C (21 + 2 * x + 1))) := by
  obtain ⟨h1, h2⟩ := h
  refine ⟨?_, ?_⟩
  · intro s a' b hs ha' hb d e
    rcases (hD s hs).mp d with d | z
    · have ne : a' ≠ a := fun z => hi s hs d (z ▸ e)
      rw [pk_un (by omega), pk_un (by omega), pk_un (by omega), pk_un (by omega)]
      exact h1 s a' b hs ha' hb d e
    · subst z
      have : a' = a := ph_inj (by omega) (by omega) (e.symm.trans hc)
      subst this
      by_cases b0 : b = 0
      · subst b0
        exact ⟨(pk_un (by omega)).trans pk_us, (pk_un (by omega)).trans pk_us⟩
      · have b1 : b = 1 := by omega
        subst b1
        exact ⟨pk_us, pk_us⟩
  · intro q hq hn
    have z0 := hn x a 0 hx ha (by omega) ((hD x hx).mpr (Or.inr rfl)) hc
    have z1 := hn x a 1 hx ha (by omega) ((hD x hx).mpr (Or.inr rfl)) hc
    rw [pk_un (by omega), pk_un (by omega), pk_un (by omega), pk_un (by omega)]
    exact h2 q hq (fun s a' b hs ha' hb d e => hn s a' b hs ha' hb ((hD s hs).mpr (Or.inl d)) e)
theorem ph_cptm {sg sg' : Nat → Nat} {U U1 K V k c C C' : Nat → Int32} {S : Nat → Prop} {p to q y : Nat} (hsg : ∀ s, s < 60 → ¬ U s = 0 → sg s < 60) (h : ph_tm sg U p (K q) (V q) (k y) (c y)) (hS : ∀ s, s < 60 → ph_ho K V q s → S s) (HC : ∀ s, s < 60 → S s → ∃ a, a < 60 ∧ a / 20 = to ∧ ¬ U1 a = 0 ∧ C s = nI a ∧ C' (sg s) = nI (sg' a)) : ph_tm sg' U1 to (K q) (ph_cv K V C q) (k y) (ph_cv k c C' y) := by
  obtain ⟨e, h⟩ := h
  refine ⟨e, ?_⟩
  rcases h with ⟨a, b⟩ | ⟨a, b⟩ | ⟨a, b⟩ | ⟨a, s, hs, hp, hu, hv, hc⟩
  · rw [ph_cvn (K := K) (by rw [a]; decide)]
    exact Or.inl ⟨a, b⟩
  · rw [ph_cvn (K := K) (by rw [a]; decide), ph_cvn (K := k) (by rw [e, a]; decide)]
    exact Or.inr (Or.inl ⟨a, b⟩)
  · rw [ph_cvn (K := K) (by rw [a]; decide), ph_cvn (K := k) (by rw [e, a]; decide)]
    exact Or.inr (Or.inr (Or.inl ⟨a, b⟩))
  · rw [ph_cv2 (K := K) a hv hs, ph_cv2 (K := k) (e.trans a) hc (hsg s hs hu)]
    obtain ⟨a', g1, g2, g3, g4, g5⟩ := HC s hs (hS s hs ⟨a, hv⟩)
    exact Or.inr (Or.inr (Or.inr ⟨a, a', g1, g2, g3, g4, g5⟩))
theorem ph_send {sg N : Nat → Nat} {K V U M k c u m C C' K1 V1 U1 k1 c1 u1 : Nat → Int32} {S T : Nat → Prop} {to : Nat} (h : ph_rel sg N K V U M k c u m) (hS1 : ∀ s, s < 60 → S s → ¬ U s = 0 ∧ T (sg s)) (hS2 : ∀ t, t < 60 → T t → ∃ s, s < 60 ∧ ¬ U s = 0 ∧ S s ∧ sg s = t) (hcl : ph_cl K V S) (aX : ph_al U to S C U1) (aY : ph_al u to T C' u1) (cX : ph_cp K V C S K1 V1) (cY : ph_cp k c C' T k1 c1) :
    ∃ sg', ph_rel sg' N K1 V1 U1 M k1 c1 u1 m ∧ (∀ s, s < 60 → S s → ∃ a, a < 60 ∧ a / 20 = to ∧ ¬ U1 a = 0 ∧ C s = nI a ∧ C' (sg s) = nI (sg' a)) := by
  have hsg : ∀ s, s < 60 → ¬ U s = 0 → sg s < 60 := fun s hs hu => (h.2.1 s hs hu).1
  have hex : ∀ a, ∃ b, (a < 60 → ¬ U a = 0 → b = sg a) ∧ (∀ s, a < 60 → U a = 0 → s < 60 → S s → C s = nI a → b < 60 ∧ C' (sg s) = nI b) := by
    intro a
    by_cases z : U a = 0
    · by_cases w : ∃ s, a < 60 ∧ s < 60 ∧ S s ∧ C s = nI a
      · obtain ⟨s, ha, hs, hSs, e⟩ := w
        obtain ⟨hu, hT⟩ := hS1 s hs hSs
        obtain ⟨b, g1, g2, g3, g4⟩ := aY.1 (sg s) (hsg s hs hu) hT
        refine ⟨b, fun _ y => absurd z y, fun s' _ _ hs' hSs' e' => ?_⟩
        have : s' = s := aX.2.1 s' s hs' hs hSs' hSs (e'.trans e.symm)
        subst this
        exact ⟨g1, g3⟩
      · exact ⟨0, fun _ y => absurd z y, fun s ha _ hs hSs e => absurd ⟨s, ha, hs, hSs, e⟩ w⟩
    · exact ⟨sg a, fun _ _ => rfl, fun s _ y => absurd y z⟩
  obtain ⟨sg', hsg'⟩ := Classical.axiomOfChoice hex
  have hC : ∀ s, s < 60 → S s → ∃ a, a < 60 ∧ a / 20 = to ∧ U a = 0 ∧ C s = nI a ∧ sg' a < 60 ∧ C' (sg s) = nI (sg' a) := by
    intro s hs hSs
    obtain ⟨a, g1, g2, g3, g4⟩ := aX.1 s hs hSs
    obtain ⟨g5, g6⟩ := (hsg' a).2 s g1 g4 hs hSs g3
    exact ⟨a, g1, g2, g4, g3, g5, g6⟩
  have hC1 : ∀ s, s < 60 → S s → ∃ a, a < 60 ∧ a / 20 = to ∧ ¬ U1 a = 0 ∧ C s = nI a ∧ C' (sg s) = nI (sg' a) := by
    intro s hs hSs
    obtain ⟨a, g1, g2, g4, g3, g5, g6⟩ := hC s hs hSs
    exact ⟨a, g1, g2, (aX.2.2 a g1).mpr (Or.inr ⟨s, hs, hSs, g3⟩), g3, g6⟩
  have hA : ∀ a s, a < 60 → s < 60 → S s → C s = nI a → a / 20 = to ∧ U a = 0 ∧ sg' a < 60 ∧ C' (sg s) = nI (sg' a) ∧ sg' a / 20 = to ∧ u (sg' a) = 0 := by
    intro a s ha hs hSs e
    obtain ⟨a', g1, g2, g4, g3, g5, g6⟩ := hC s hs hSs
    have : a' = a := ph_inj (by omega) (by omega) (g3.symm.trans e)
    subst this
    obtain ⟨hu, hT⟩ := hS1 s hs hSs
    obtain ⟨b, k1, k2, k3, k4⟩ := aY.1 (sg s) (hsg s hs hu) hT
    have : b = sg' a' := ph_inj (by omega) (by omega) (k3.symm.trans g6)
    subst this
    exact ⟨g2, g4, g5, g6, k2, k4⟩
  refine ⟨sg', ph_ext h (fun a => ∃ s, s < 60 ∧ S s ∧ C s = nI a) ?_ ?_ ?_ ?_ ?_ ?_ ?_ ?_ ?_, hC1⟩
  · intro a ha ⟨s, hs, hSs, e⟩
    exact (hA a s ha hs hSs e).2.1
  · intro a ha
    exact aX.2.2 a ha
  · intro t ht
    rw [aY.2.2 t ht]
    constructor
    · intro z
      rcases z with z | ⟨t0, ht0, hT0, e0⟩
      · exact Or.inl z
      · obtain ⟨s, hs, hu, hSs, rfl⟩ := hS2 t0 ht0 hT0
        obtain ⟨a, g1, g2, g4, g3, g5, g6⟩ := hC s hs hSs
        exact Or.inr ⟨a, g1, ⟨s, hs, hSs, g3⟩, ph_inj (by omega) (by omega) (g6.symm.trans e0)⟩
    · intro z
      rcases z with z | ⟨a, ha, ⟨s, hs, hSs, e⟩, e'⟩
      · exact Or.inl z
      · obtain ⟨hu, hT⟩ := hS1 s hs hSs
        obtain ⟨_, _, _, g6, _, _⟩ := hA a s ha hs hSs e
        exact Or.inr ⟨sg s, hsg s hs hu, hT, by rw [← e']; exact g6⟩
  · intro a ha ⟨s, hs, hSs, e⟩
    obtain ⟨g1, g2, g3, g4, g5, g6⟩ := hA a s ha hs hSs e
    exact ⟨g3, g5.trans g1.symm, g6⟩
  · intro a a' ha ha' ⟨s, hs, hSs, e⟩ ⟨s', hs', hSs', e'⟩ z
    obtain ⟨_, _, _, g4, _, _⟩ := hA a s ha hs hSs e
    obtain ⟨_, _, _, g4', _, _⟩ := hA a' s' ha' hs' hSs' e'
    obtain ⟨hu, hT⟩ := hS1 s hs hSs
    obtain ⟨hu', hT'⟩ := hS1 s' hs' hSs'
    rw [z] at g4
    have w := aY.2.1 (sg s) (sg s') (hsg s hs hu) (hsg s' hs' hu') hT hT' (g4.trans g4'.symm)
    have w' := h.2.2.1 s s' hs hs' hu hu' w
    subst w'
    exact ph_inj (by omega) (by omega) (e.symm.trans e')
  · intro s hs hu
    exact (hsg' s).1 hs hu
  · intro q hq hn
    exact cX.2 q hq (fun s a b hs ha hb hSs e => hn a b ha hb ⟨s, hs, hSs, e⟩)
  · intro y hy hn
    refine cY.2 y hy (fun t b' b ht hb' hb hT e => ?_)
    obtain ⟨s, hs, hu, hSs, rfl⟩ := hS2 t ht hT
    obtain ⟨a, g1, g2, g4, g3, g5, g6⟩ := hC s hs hSs
    have : sg' a = b' := ph_inj (by omega) (by omega) (g6.symm.trans e)
    rw [← this]
    exact hn a b g1 hb ⟨s, hs, hSs, g3⟩
  · intro a b ha hb ⟨s, hs, hSs, e⟩
    obtain ⟨g1, g2, g3, g4, g5, g6⟩ := hA a s ha hs hSs e
    obtain ⟨hu, hT⟩ := hS1 s hs hSs
    obtain ⟨e1, e2⟩ := cX.1 s a b hs ha hb hSs e
    obtain ⟨e3, e4⟩ := cY.1 (sg s) (sg' a) b (hsg s hs hu) g3 hb hT g4
    rw [e1, e2, e3, e4, g1]
    exact ph_cptm hsg (ph_cell h hs hb hu) (fun s' hs' ho => hcl s b s' hs hb hs' hSs ho) hC1
