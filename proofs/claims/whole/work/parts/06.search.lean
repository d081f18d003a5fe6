/-! the two searches, step by step: X's list, Y's rounds -/
theorem ph_ct_0 {P : Nat → Int32} {a n : Nat} (h : ∀ i, i < n → P (a + i) = 0) : ph_ct P a n = 0 := by
  induction n with
  | zero => rfl
  | succ n ih =>
    rw [ph_ct_s0 (h n (by omega))]
    exact ih (fun i hi => h i (by omega))
theorem ph_ct_all {P : Nat → Int32} {n : Nat} (h : n ≤ ph_ct P 0 n) {s : Nat} (hs : s < n) : ¬ P s = 0 := by
  intro z
  have := ph_ct_lt (P := P) (a := 0) (n := n) z (by omega) (by omega)
  omega
/-- the list F of n slots holds the found ones, each once -/
def ph_li (I F : Nat → Int32) (n : Nat) : Prop :=
  n = ph_ct I 0 60 ∧ (∀ i, i < n → ∃ s, s < 60 ∧ F i = nI s ∧ ¬ I s = 0) ∧ (∀ i j, i < n → j < n → F i = F j → i = j) ∧ (∀ s, s < 60 → ¬ I s = 0 → ∃ i, i < n ∧ F i = nI s)
theorem ph_li_0 {I F : Nat → Int32} (h : ∀ s, s < 60 → I s = 0) : ph_li I F 0 :=
  ⟨(ph_ct_0 (fun i hi => by rw [Nat.zero_add]; exact h i hi)).symm, fun i hi => absurd hi (by omega), fun i _ hi => absurd hi (by omega), fun s hs z => absurd (h s hs) z⟩
theorem ph_li_60 {I F : Nat → Int32} {n : Nat} (h : ph_li I F n) : n ≤ 60 := by
  rw [h.1]
  exact ph_ct_le I 0 60
theorem ph_li_lt {I F : Nat → Int32} {n s : Nat} (h : ph_li I F n) (hs : s < 60) (h0 : I s = 0) : n < 60 := by
  rw [h.1]
  exact ph_ct_lt h0 (by omega) (by omega)
theorem ph_li_s {I F : Nat → Int32} {n s : Nat} (h : ph_li I F n) (hs : s < 60) (h0 : I s = 0) {x : Int32} (hx : ¬ x = 0) : ph_li (upd I s x) (upd F n (nI s)) (n + 1) := by
  obtain ⟨h1, h2, h3, h4⟩ := h
  have old : ∀ i, i < n → upd F n (nI s) i = F i := fun i hi => pk_un (by omega)
  have ns : ∀ i, i < n → F i ≠ nI s := by
    intro i hi z
    obtain ⟨s', g1, g2, g3⟩ := h2 i hi
    have : s' = s := ph_inj (by omega) (by omega) (g2.symm.trans z)
    subst this
    exact g3 h0
  refine ⟨?_, ?_, ?_, ?_⟩
  · rw [ph_ct_set hx h0 60 (by omega) (by omega), ← h1]
  · intro i hi
    by_cases e : i = n
    · subst e
      exact ⟨s, hs, pk_us, by rw [pk_us]; exact hx⟩
    · obtain ⟨s', g1, g2, g3⟩ := h2 i (by omega)
      refine ⟨s', g1, by rw [old i (by omega)]; exact g2, ?_⟩
      by_cases e' : s' = s
      · subst e'
        rw [pk_us]
        exact hx
      · rw [pk_un e']
        exact g3
  · intro i j hi hj e
    by_cases ei : i = n
    · by_cases ej : j = n
      · exact ei.trans ej.symm
      · rw [ei, pk_us, old j (by omega)] at e
        exact absurd e.symm (ns j (by omega))
    · by_cases ej : j = n
      · rw [ej, pk_us, old i (by omega)] at e
        exact absurd e (ns i (by omega))
      · rw [old i (by omega), old j (by omega)] at e
        exact h3 i j (by omega) (by omega) e
  · intro s' hs' z
    by_cases e : s' = s
    · subst e
      exact ⟨n, by omega, pk_us⟩
    · rw [pk_un e] at z
      obtain ⟨i, hi, e'⟩ := h4 s' hs' z
      exact ⟨i, by omega, by rw [old i hi]; exact e'⟩
/-- a look into cell q took (I, F, n) to (I', F', n') -/
def ph_fs (K V : Nat → Int32) (q : Nat) (I F : Nat → Int32) (n : Nat) (I' F' : Nat → Int32) (n' : Nat) : Prop :=
  ph_li I' F' n' ∧ n ≤ n' ∧ (∀ i, i < n → F' i = F i) ∧ (∀ s, s < 60 → ¬ I s = 0 → ¬ I' s = 0) ∧ (∀ s, s < 60 → ph_ho K V q s → ¬ I' s = 0) ∧ (∀ s, s < 60 → ¬ I' s = 0 → ¬ I s = 0 ∨ ph_ho K V q s)
theorem ph_fs_n {K V I F : Nat → Int32} {q n : Nat} (h : ph_li I F n) (hk : ¬ K q = 2) : ph_fs K V q I F n I F n :=
  ⟨h, Nat.le_refl n, fun _ _ => rfl, fun _ _ z => z, fun _ _ z => absurd z.1 hk, fun _ _ z => Or.inl z⟩
theorem ph_fs_o {K V I F : Nat → Int32} {q n s : Nat} (h : ph_li I F n) (hs : s < 60) (hv : V q = nI s) (hi : ¬ I s = 0) : ph_fs K V q I F n I F n := by
  refine ⟨h, Nat.le_refl n, fun _ _ => rfl, fun _ _ z => z, fun s' hs' z => ?_, fun _ _ z => Or.inl z⟩
  have : s' = s := ph_inj (by omega) (by omega) (z.2.symm.trans hv)
  subst this
  exact hi
theorem ph_fs_s {K V I F : Nat → Int32} {q n s : Nat} (h : ph_li I F n) (hs : s < 60) (hk : K q = 2) (hv : V q = nI s) (hi : I s = 0) {x : Int32} (hx : ¬ x = 0) : ph_fs K V q I F n (upd I s x) (upd F n (nI s)) (n + 1) := by
  refine ⟨ph_li_s h hs hi hx, by omega, fun i hi => pk_un (by omega), fun s' hs' z => ?_, fun s' hs' z => ?_, fun s' hs' z => ?_⟩
  · by_cases e : s' = s
    · rw [e, pk_us]
      exact hx
    · rw [pk_un e]
      exact z
  · have : s' = s := ph_inj (by omega) (by omega) (z.2.symm.trans hv)
    rw [this, pk_us]
    exact hx
  · by_cases e : s' = s
    · rw [e]
      exact Or.inr ⟨hk, hv⟩
    · rw [pk_un e] at z
      exact Or.inl z
/-- the roots: what i cells from a on hold -/
def ph_b1 (K V : Nat → Int32) (a : Nat) (I F : Nat → Int32) (n i : Nat) : Prop := ph_li I F n ∧ ∀ s, s < 60 → (¬ I s = 0 ↔ ∃ j, j < i ∧ ph_ho K V (a + j) s)
theorem ph_b1_0 {K V I F : Nat → Int32} {a : Nat} (h : ∀ s, s < 60 → I s = 0) : ph_b1 K V a I F 0 0 :=
  ⟨ph_li_0 h, fun s hs => ⟨fun z => absurd (h s hs) z, fun ⟨j, hj, _⟩ => absurd hj (by omega)⟩⟩
theorem ph_b1_s {K V I F I' F' : Nat → Int32} {a n n' i : Nat} (h : ph_b1 K V a I F n i) (f : ph_fs K V (a + i) I F n I' F' n') : ph_b1 K V a I' F' n' (i + 1) := by
  obtain ⟨f1, f2, f3, f4, f5, f6⟩ := f
  refine ⟨f1, fun s hs => ⟨fun z => ?_, fun ⟨j, hj, z⟩ => ?_⟩⟩
  · rcases f6 s hs z with w | w
    · obtain ⟨j, hj, w⟩ := (h.2 s hs).mp w
      exact ⟨j, by omega, w⟩
    · exact ⟨i, by omega, w⟩
  · by_cases e : j = i
    · subst e
      exact f5 s hs z
    · exact f4 s hs ((h.2 s hs).mpr ⟨j, by omega, z⟩)
/-- the list, gone through up to e -/
def ph_b2 (K V : Nat → Int32) (R : Nat → Prop) (I F : Nat → Int32) (n e : Nat) : Prop :=
  ph_li I F n ∧ (∀ t, t < 60 → R t → ¬ I t = 0) ∧ (∀ j s b t, j < e → j < n → s < 60 → b < 2 → t < 60 → F j = nI s → ph_ho K V (21 + 2 * s + b) t → ¬ I t = 0) ∧ (∀ S : Nat → Prop, (∀ t, t < 60 → R t → S t) → ph_cl K V S → ∀ t, t < 60 → ¬ I t = 0 → S t)
theorem ph_b2_0 {K V I F : Nat → Int32} {a n i : Nat} (h : ph_b1 K V a I F n i) : ph_b2 K V (fun s => ∃ j, j < i ∧ ph_ho K V (a + j) s) I F n 0 :=
  ⟨h.1, fun t ht z => (h.2 t ht).mpr z, fun j _ _ _ hj => absurd hj (by omega), fun _ hR _ t ht z => hR t ht ((h.2 t ht).mp z)⟩
theorem ph_b2_s {K V I F I' F' I2 F2 : Nat → Int32} {R : Nat → Prop} {n n' n2 e s : Nat} (h : ph_b2 K V R I F n e) (he : e < n) (hs : s < 60) (hF : F e = nI s) (f : ph_fs K V (21 + 2 * s) I F n I' F' n') (g : ph_fs K V (21 + 2 * s + 1) I' F' n' I2 F2 n2) : ph_b2 K V R I2 F2 n2 (e + 1) := by
  obtain ⟨h1, h2, h3, h4⟩ := h
  obtain ⟨f1, f2, f3, f4, f5, f6⟩ := f
  obtain ⟨g1, g2, g3, g4, g5, g6⟩ := g
  have up : ∀ t, t < 60 → ¬ I t = 0 → ¬ I2 t = 0 := fun t ht z => g4 t ht (f4 t ht z)
  have ol : ∀ j, j < n → F2 j = F j := fun j hj => (g3 j (by omega)).trans (f3 j hj)
  obtain ⟨s', hs', hF', hI⟩ := h1.2.1 e he
  have : s' = s := ph_inj (by omega) (by omega) (hF'.symm.trans hF)
  subst this
  refine ⟨g1, fun t ht z => up t ht (h2 t ht z), ?_, ?_⟩
  · intro j x b t hj hjn hx hb ht hFx ho
    by_cases ej : j = e
    · subst ej
      rw [ol j he] at hFx
      have : x = s' := ph_inj (by omega) (by omega) (hFx.symm.trans hF)
      subst this
      by_cases b0 : b = 0
      · subst b0
        exact g4 t ht (f5 t ht ho)
      · have b1 : b = 1 := by omega
        subst b1
        exact g5 t ht ho
    · have hjn' : j < n := by omega
      rw [ol j hjn'] at hFx
      exact up t ht (h3 j x b t (by omega) hjn' hx hb ht hFx ho)
  · intro S hR hc t ht z
    have hSs : S s' := h4 S hR hc s' hs' hI
    rcases g6 t ht z with z | z
    · rcases f6 t ht z with z | z
      · exact h4 S hR hc t ht z
      · exact hc s' 0 t hs' (by omega) ht hSs z
    · exact hc s' 1 t hs' (by omega) ht hSs z
theorem ph_b2_e {K V I F : Nat → Int32} {R : Nat → Prop} {n e : Nat} (h : ph_b2 K V R I F n e) (he : n ≤ e) : ph_lf K V R (fun s => ¬ I s = 0) := by
  obtain ⟨h1, h2, h3, h4⟩ := h
  refine ⟨h2, ?_, h4⟩
  intro s b t hs hb ht hI ho
  obtain ⟨i, hi, e'⟩ := h1.2.2.2 s hs hI
  exact h3 i s b t (by omega) hi hs hb ht e' ho
/-- Y's reached cells on the way: nothing beyond the least set over R -/
def ph_sp (k c : Nat → Int32) (R : Nat → Prop) (I : Nat → Int32) : Prop :=
  (∀ t, t < 60 → R t → ¬ I t = 0) ∧ (∀ S : Nat → Prop, (∀ t, t < 60 → R t → S t) → ph_cl k c S → ∀ t, t < 60 → ¬ I t = 0 → S t)
def ph_cu (k c I : Nat → Int32) (P : Nat) : Prop := ∀ q t, 21 ≤ q → q < P → t < 60 → ¬ I ((q - 21) / 2) = 0 → ph_ho k c q t → ¬ I t = 0
theorem ph_sp_0 {k c I : Nat → Int32} : ph_sp k c (fun t => ¬ I t = 0) I := ⟨fun _ _ z => z, fun _ h _ t ht z => h t ht z⟩
theorem ph_sp_s {k c I : Nat → Int32} {R : Nat → Prop} (h : ph_sp k c R I) {q t : Nat} (hq : 21 ≤ q) (hq2 : q < 141) (ht : t < 60) (hI : ¬ I ((q - 21) / 2) = 0) (ho : ph_ho k c q t) {x : Int32} (hx : ¬ x = 0) : ph_sp k c R (upd I t x) := by
  refine ⟨fun t' ht' z => ?_, fun S hR hc t' ht' z => ?_⟩
  · by_cases e : t' = t
    · rw [e, pk_us]
      exact hx
    · rw [pk_un e]
      exact h.1 t' ht' z
  · by_cases e : t' = t
    · subst e
      have eq : 21 + 2 * ((q - 21) / 2) + (q - 21) % 2 = q := by omega
      exact hc ((q - 21) / 2) ((q - 21) % 2) t' (by omega) (by omega) ht' (h.2 S hR hc _ (by omega) hI) (by rw [eq]; exact ho)
    · rw [pk_un e] at z
      exact h.2 S hR hc t' ht' z
theorem ph_cu_cl {k c I : Nat → Int32} (h : ph_cu k c I 141) : ph_cl k c (fun t => ¬ I t = 0) := by
  intro s b t hs hb ht hI ho
  have e : (21 + 2 * s + b - 21) / 2 = s := by omega
  exact h (21 + 2 * s + b) t (by omega) (by omega) ht (by rw [e]; exact hI) ho
theorem ph_sp_e {k c I : Nat → Int32} {R : Nat → Prop} (h : ph_sp k c R I) (hc : ph_cl k c (fun t => ¬ I t = 0)) : ph_lf k c R (fun t => ¬ I t = 0) := ⟨h.1, hc, h.2⟩
/-- the rounds of Y: r of them are done, mo says whether another is wanted -/
def ph_ro (k c : Nat → Int32) (R : Nat → Prop) (r : Nat) (mo : Int32) (I : Nat → Int32) : Prop :=
  ph_sp k c R I ∧ (¬ mo = 0 → r ≤ ph_ct I 0 60) ∧ (mo = 0 → ph_cl k c (fun t => ¬ I t = 0))
/-- within a round, ahead of place P -/
def ph_ri (k c : Nat → Int32) (R : Nat → Prop) (r P : Nat) (mo : Int32) (I : Nat → Int32) : Prop :=
  ph_sp k c R I ∧ r ≤ ph_ct I 0 60 ∧ (¬ mo = 0 → r + 1 ≤ ph_ct I 0 60) ∧ (mo = 0 → ph_cu k c I P)
theorem ph_ri_0 {k c I : Nat → Int32} {R : Nat → Prop} {r : Nat} {mo : Int32} (h : ph_ro k c R r mo I) (hm : ¬ mo = 0) : ph_ri k c R r 21 0 I :=
  ⟨h.1, h.2.1 hm, fun z => absurd rfl z, fun _ q t h1 h2 => absurd h2 (by omega)⟩
theorem ph_ri_n {k c I : Nat → Int32} {R : Nat → Prop} {r P : Nat} {mo : Int32} (h : ph_ri k c R r P mo I) (hn : ∀ t, t < 60 → ¬ I ((P - 21) / 2) = 0 → ph_ho k c P t → ¬ I t = 0) : ph_ri k c R r (P + 1) mo I := by
  refine ⟨h.1, h.2.1, h.2.2.1, fun z q t h1 h2 ht hI ho => ?_⟩
  by_cases e : q = P
  · subst e
    exact hn t ht hI ho
  · exact h.2.2.2 z q t h1 (by omega) ht hI ho
theorem ph_ri_s {k c I : Nat → Int32} {R : Nat → Prop} {r P t : Nat} {mo : Int32} (h : ph_ri k c R r P mo I) (hP : 21 ≤ P) (hP2 : P < 141) (ht : t < 60) (hI : ¬ I ((P - 21) / 2) = 0) (ho : ph_ho k c P t) (h0 : I t = 0) {x : Int32} (hx : ¬ x = 0) {mo' : Int32} (hm : ¬ mo' = 0) : ph_ri k c R r (P + 1) mo' (upd I t x) := by
  have e := ph_ct_set (P := I) (a := 0) (s := t) hx h0 60 (by omega) (by omega)
  have := h.2.1
  exact ⟨ph_sp_s h.1 hP hP2 ht hI ho hx, by omega, fun _ => by omega, fun z => absurd z hm⟩
theorem ph_ri_e {k c I : Nat → Int32} {R : Nat → Prop} {r : Nat} {mo : Int32} (h : ph_ri k c R r 141 mo I) : ph_ro k c R (r + 1) mo I :=
  ⟨h.1, h.2.2.1, fun z => ph_cu_cl (h.2.2.2 z)⟩
theorem ph_ro_e {k c I : Nat → Int32} {R : Nat → Prop} {r : Nat} {mo : Int32} (h : ph_ro k c R r mo I) (he : mo = 0 ∨ 60 ≤ r) : ph_lf k c R (fun t => ¬ I t = 0) := by
  refine ph_sp_e h.1 ?_
  by_cases z : mo = 0
  · exact h.2.2 z
  · have h60 : 60 ≤ ph_ct I 0 60 := by
      have := h.2.1 z
      rcases he with w | w
      · exact absurd w z
      · omega
    intro s b t _ _ ht _ _
    exact ph_ct_all h60 ht
