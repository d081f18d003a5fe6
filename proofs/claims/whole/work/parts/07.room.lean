/-! cleaning and making room, both sides together -/
def ph_yo (y : Nat) : Nat := if y < 12 then y / 4 else (y - 12) / 3
def ph_xr (p : Nat) (K V : Nat → Int32) (s : Nat) : Prop := ∃ i, i < 7 ∧ ph_ho K V (7 * p + i) s
def ph_yr (p : Nat) (k c u : Nat → Int32) (N : Nat → Nat) (t : Nat) : Prop := ∃ y, y < 21 ∧ ph_yo y = p ∧ ph_th u N y ∧ ph_ho k c y t
/-- X has cleaned p's heap -/
def ph_xc (p : Nat) (K V U K' V' U' : Nat → Int32) : Prop := ∃ S : Nat → Prop, ph_lf K V (ph_xr p K V) S ∧ (∀ s, s < 60 → (¬ U' s = 0 ↔ ¬ U s = 0 ∧ (s / 20 = p → S s))) ∧ (∀ q, q < 21 → K' q = K q ∧ V' q = V q) ∧ (∀ s b, s < 60 → b < 2 → (s / 20 = p → S s) → K' (21 + 2 * s + b) = K (21 + 2 * s + b) ∧ V' (21 + 2 * s + b) = V (21 + 2 * s + b)) ∧ (∀ s b, s < 60 → b < 2 → s / 20 = p → ¬ S s → K' (21 + 2 * s + b) = 0 ∧ V' (21 + 2 * s + b) = 0)
def ph_yc (p : Nat) (k c u : Nat → Int32) (N : Nat → Nat) (u' : Nat → Int32) : Prop := ∃ T : Nat → Prop, ph_lf k c (ph_yr p k c u N) T ∧ (∀ t, t < 60 → (¬ u' t = 0 ↔ ¬ u t = 0 ∧ (t / 20 = p → T t)))
section
variable {sg N : Nat → Nat} {K V U M k c u m : Nat → Int32}
theorem ph_yo_q {p i : Nat} (hp : p < 3) (hi : i < 7) : ph_yo (ph_yp sg (7 * p + i)) = p := by
  unfold ph_yo ph_yp
  rw [if_pos (show 7 * p + i < 21 by omega)]
  by_cases h : i < 4
  · rw [if_pos (show (7 * p + i) % 7 < 4 by omega), if_pos (by omega)]
    omega
  · rw [if_neg (show ¬ (7 * p + i) % 7 < 4 by omega), if_neg (by omega)]
    omega
theorem ph_xyr (h : ph_rel sg N K V U M k c u m) {p : Nat} (hp : p < 3) : (∀ s, s < 60 → ph_xr p K V s → ¬ U s = 0 ∧ ph_yr p k c u N (sg s)) ∧ (∀ t, t < 60 → ph_yr p k c u N t → ∃ s, s < 60 ∧ ph_xr p K V s ∧ sg s = t) := by
  constructor
  · intro s hs ⟨i, hi, ho⟩
    have hl : ph_live U N (7 * p + i) := Classical.byContradiction (fun z => by
      have := (h.2.2.2.2.2 (7 * p + i) (by omega) z).1
      rw [ho.1] at this
      exact absurd this (by decide))
    obtain ⟨k2, s', hs', _, hu', hv', hc'⟩ := ph_tm_x (h.2.2.2.2.1 (7 * p + i) (by omega) hl) ho.1
    have : s' = s := ph_inj (by omega) (by omega) (hv'.symm.trans ho.2)
    subst this
    exact ⟨hu', ph_yp sg (7 * p + i), ph_yp_lt hp hi, ph_yo_q hp hi, (ph_thq h (by omega) hl).2, k2, hc'⟩
  · intro t ht ⟨y, hy, hyo, hth, ho⟩
    obtain ⟨q, hq, hl, rfl⟩ := ph_thy h (by omega) hth
    have tm := h.2.2.2.2.1 q hq hl
    have k2 : K q = 2 := tm.1.symm.trans ho.1
    obtain ⟨_, s, hs, _, hu, hv, hc⟩ := ph_tm_x tm k2
    have e : sg s = t := ph_inj (by have := (h.2.1 s hs hu).1; omega) (by omega) (hc.symm.trans ho.2)
    rcases ph_q hq with ⟨p', i, hp', hi, rfl⟩ | ⟨s0, b, hs0, hb, rfl⟩
    · rw [ph_yo_q hp' hi] at hyo
      subst hyo
      exact ⟨s, hs, ⟨i, hi, k2, hv⟩, e⟩
    · rw [ph_yp_slot hb] at hy
      omega
theorem ph_clean2 (h : ph_rel sg N K V U M k c u m) {p : Nat} (hp : p < 3) {K' V' U' u' : Nat → Int32} (hx : ph_xc p K V U K' V' U') (hy : ph_yc p k c u N u') : ph_rel sg N K' V' U' M k c u' m := by
  obtain ⟨S, hS, x1, x2, x3, x4⟩ := hx
  obtain ⟨T, hT, y1⟩ := hy
  obtain ⟨r1, r2⟩ := ph_xyr h hp
  obtain ⟨c1, c2⟩ := ph_corr h hS hT r1 r2
  refine ph_clean h (p := p) (S := S) (T := T) ?_ hS.2.1 (fun i s hi hs ho => hS.1 s hs ⟨i, hi, ho⟩) x1 y1 ?_ ?_
  · intro s hs hu _
    constructor
    · intro z
      exact (c1 s hs z).2
    · intro z
      obtain ⟨s', hs', hu', hS', e⟩ := c2 (sg s) (h.2.1 s hs hu).1 z
      have := h.2.2.1 s' s hs' hs hu' hu e
      subst this
      exact hS'
  · intro q hq hl
    rcases ph_q hq with ⟨p', i, hp', hi, rfl⟩ | ⟨s, b, hs, hb, rfl⟩
    · exact x2 _ (by omega)
    · exact x3 s b hs hb ((x1 s hs).mp ((ph_live_slot hb).mp hl)).2
  · intro q hq hl
    rcases ph_q hq with ⟨p', i, hp', hi, rfl⟩ | ⟨s, b, hs, hb, rfl⟩
    · obtain ⟨e1, e2⟩ := x2 (7 * p' + i) (by omega)
      rw [e1, e2]
      refine h.2.2.2.2.2 (7 * p' + i) (by omega) (fun z => hl ?_)
      rcases z with z | ⟨z, _⟩
      · exact Or.inl z
      · omega
    · by_cases z : s / 20 = p ∧ ¬ S s
      · exact x4 s b hs hb z.1 z.2
      · have zz : s / 20 = p → S s := fun w => Classical.byContradiction (fun w' => z ⟨w, w'⟩)
        obtain ⟨e1, e2⟩ := x3 s b hs hb zz
        rw [e1, e2]
        refine ph_cell0 h hs hb (Classical.byContradiction (fun w => hl ((ph_live_slot hb).mpr ((x1 s hs).mpr ⟨w, zz⟩))))
/-- room for n pairs was looked for in p's heap -/
def ph_xm (p n : Nat) (K V U K' V' U' : Nat → Int32) : Prop := (ph_ct U (20 * p) 20 + n ≤ 20 ∧ K' = K ∧ V' = V ∧ U' = U) ∨ (¬ ph_ct U (20 * p) 20 + n ≤ 20 ∧ ph_xc p K V U K' V' U')
def ph_ym (p n : Nat) (k c u : Nat → Int32) (N : Nat → Nat) (u' : Nat → Int32) : Prop := (ph_ct u (20 * p) 20 + n ≤ 20 ∧ u' = u) ∨ (¬ ph_ct u (20 * p) 20 + n ≤ 20 ∧ ph_yc p k c u N u')
theorem ph_room2 (h : ph_rel sg N K V U M k c u m) {p n : Nat} (hp : p < 3) {K' V' U' u' : Nat → Int32} (hx : ph_xm p n K V U K' V' U') (hy : ph_ym p n k c u N u') : ph_rel sg N K' V' U' M k c u' m := by
  have e := ph_cnt h hp
  rcases hx with ⟨a, rfl, rfl, rfl⟩ | ⟨a, hx⟩
  · rcases hy with ⟨_, rfl⟩ | ⟨b, _⟩
    · exact h
    · rw [← e] at b
      exact absurd a b
  · rcases hy with ⟨b, _⟩ | ⟨_, hy⟩
    · rw [← e] at b
      exact absurd b a
    · exact ph_clean2 h hp hx hy
/-- after the room was made a cell that holds a pair holds what it held -/
theorem ph_xm_keep {p n : Nat} {K' V' U' : Nat → Int32} (hx : ph_xm p n K V U K' V' U') {q : Nat} (hq : q < 141) (hk : K' q = 2) : K q = 2 ∧ V' q = V q := by
  rcases hx with ⟨_, rfl, rfl, _⟩ | ⟨_, S, _, _, x2, x3, x4⟩
  · exact ⟨hk, rfl⟩
  · rcases ph_q hq with ⟨p', i, hp', hi, rfl⟩ | ⟨s, b, hs, hb, rfl⟩
    · obtain ⟨e1, e2⟩ := x2 (7 * p' + i) (by omega)
      exact ⟨e1.symm.trans hk, e2⟩
    · by_cases z : s / 20 = p ∧ ¬ S s
      · have := (x4 s b hs hb z.1 z.2).1
        rw [hk] at this
        exact absurd this (by decide)
      · obtain ⟨e1, e2⟩ := x3 s b hs hb (fun w => Classical.byContradiction (fun w' => z ⟨w, w'⟩))
        exact ⟨e1.symm.trans hk, e2⟩
theorem ph_xm_le {p n q : Nat} (hq : q < 141) {K' V' U' : Nat → Int32} (hx : ph_xm p n K V U K' V' U') {I I' : Nat → Int32} (f : ph_lf K V (fun s => ∃ j, j < 1 ∧ ph_ho K V (q + j) s) (fun s => ¬ I s = 0)) (f' : ph_lf K' V' (fun s => ∃ j, j < 1 ∧ ph_ho K' V' (q + j) s) (fun s => ¬ I' s = 0)) : ph_ct I' 0 60 ≤ ph_ct I 0 60 := by
  have sub : ∀ t, t < 60 → ¬ I' t = 0 → ¬ I t = 0 := by
    apply f'.2.2 (fun t => ¬ I t = 0)
    · intro t ht ⟨j, hj, ho⟩
      obtain ⟨e1, e2⟩ := ph_xm_keep hx (q := q + j) (by omega) ho.1
      exact f.1 t ht ⟨j, hj, e1, e2.symm.trans ho.2⟩
    · intro s b t hs hb ht hI ho
      obtain ⟨e1, e2⟩ := ph_xm_keep hx (q := 21 + 2 * s + b) (by omega) ho.1
      exact f.2.1 s b t hs hb ht hI ⟨e1, e2.symm.trans ho.2⟩
  exact ph_ct_inj (fun i => i) 0 60 60 I (fun i h1 h2 z => ⟨h1, h2, sub i (by omega) z⟩) (fun i j _ _ _ _ _ _ e => e)
theorem ph_lf_ct {R : Nat → Prop} {I I' : Nat → Int32} (f : ph_lf K V R (fun s => ¬ I s = 0)) (f' : ph_lf K V R (fun s => ¬ I' s = 0)) : ph_ct I' 0 60 = ph_ct I 0 60 := by
  apply ph_ct_cg
  intro i hi
  rw [Nat.zero_add]
  constructor
  · intro z
    exact Classical.byContradiction (fun w => f.2.2 _ f'.1 f'.2.1 i hi w z)
  · intro z
    exact Classical.byContradiction (fun w => f'.2.2 _ f.1 f.2.1 i hi w z)
theorem ph_ct_mono {P : Nat → Int32} {a i j : Nat} (h : i ≤ j) : ph_ct P a i ≤ ph_ct P a j := by
  induction j with
  | zero =>
    have : i = 0 := by omega
    rw [this]
    exact Nat.le_refl _
  | succ j ih =>
    by_cases e : i = j + 1
    · rw [e]
      exact Nat.le_refl _
    · have := ih (by omega)
      by_cases z : P (a + j) = 0
      · rw [ph_ct_s0 z]; exact this
      · rw [ph_ct_s1 z]; omega
/-- the search from one register, both sides -/
theorem ph_one (h : ph_rel sg N K V U M k c u m) {p r : Nat} (hp : p < 3) (hr : r < 4) {S T : Nat → Prop} (hS : ph_lf K V (fun s => ∃ j, j < 1 ∧ ph_ho K V (7 * p + r + j) s) S) (hT : ph_lf k c (fun t => ph_ho k c (4 * p + r) t) T) : (∀ s, s < 60 → S s → ¬ U s = 0 ∧ T (sg s)) ∧ (∀ t, t < 60 → T t → ∃ s, s < 60 ∧ ¬ U s = 0 ∧ S s ∧ sg s = t) := by
  have tm := ph_reg h hp hr
  apply ph_corr h hS hT
  · intro s hs ⟨j, hj, ho⟩
    have : j = 0 := by omega
    subst this
    obtain ⟨k2, s', hs', _, hu', hv', hc'⟩ := ph_tm_x tm ho.1
    have : s' = s := ph_inj (by omega) (by omega) (hv'.symm.trans ho.2)
    subst this
    exact ⟨hu', k2, hc'⟩
  · intro t ht ho
    have k2 : K (7 * p + r) = 2 := tm.1.symm.trans ho.1
    obtain ⟨_, s, hs, _, hu, hv, hc⟩ := ph_tm_x tm k2
    exact ⟨s, hs, ⟨0, by omega, k2, hv⟩, ph_inj (by have := (h.2.1 s hs hu).1; omega) (by omega) (hc.symm.trans ho.2)⟩
end
theorem ph_send2 {sg N : Nat → Nat} {K V U M k c u m C C' K1 V1 U1 k1 c1 u1 : Nat → Int32} {S T : Nat → Prop} {p r to : Nat} (h : ph_rel sg N K V U M k c u m) (hp : p < 3) (hr : r < 4) (hto : to < 3) (hN : N to < 3) (hS : ph_lf K V (fun s => ∃ j, j < 1 ∧ ph_ho K V (7 * p + r + j) s) S) (hT : ph_lf k c (fun t => ph_ho k c (4 * p + r) t) T) (aX : ph_al U to S C U1) (aY : ph_al u to T C' u1) (cX : ph_cp K V C S K1 V1) (cY : ph_cp k c C' T k1 c1) :
    ∃ sg' N', ph_rel sg' N' (upd K1 (7 * to + 4 + N to) (K (7 * p + r))) (upd V1 (7 * to + 4 + N to) (ph_cv K V C (7 * p + r))) U1 (upd M to (nI (N to + 1))) (upd k1 (12 + 3 * to + N to) (k (4 * p + r))) (upd c1 (12 + 3 * to + N to) (ph_cv k c C' (4 * p + r))) u1 (upd m to (nI (N to + 1))) := by
  obtain ⟨d1, d2⟩ := ph_one h hp hr hS hT
  obtain ⟨sg', hr', hC⟩ := ph_send h d1 d2 hS.2.1 aX aY cX cY
  exact ⟨sg', ph_nu N to (N to + 1), ph_push hr' hto hN (ph_cptm (fun s hs hu => (h.2.1 s hs hu).1) (ph_reg h hp hr) (fun s hs ho => hS.1 s hs ⟨0, by omega, ho⟩) hC)⟩
