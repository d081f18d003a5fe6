/-! the relation: X's cells against Y's places, through a renaming sg of the slots in use -/
def ph_own (q : Nat) : Nat := if q < 21 then q / 7 else (q - 21) / 40
def ph_yp (sg : Nat → Nat) (q : Nat) : Nat := if q < 21 then (if q % 7 < 4 then 4 * (q / 7) + q % 7 else 8 + 3 * (q / 7) + q % 7) else 21 + 2 * sg ((q - 21) / 2) + (q - 21) % 2
def ph_live (U : Nat → Int32) (N : Nat → Nat) (q : Nat) : Prop := (q < 21 ∧ q % 7 < 4 + N (q / 7)) ∨ (21 ≤ q ∧ ¬ U ((q - 21) / 2) = 0)
def ph_th (u : Nat → Int32) (N : Nat → Nat) (y : Nat) : Prop := y < 12 ∨ (12 ≤ y ∧ y < 21 ∧ (y - 12) % 3 < N ((y - 12) / 3)) ∨ (21 ≤ y ∧ ¬ u ((y - 21) / 2) = 0)
/-- the term (kx, vx) of X, held by process p, is the term (ky, cy) of Y -/
def ph_tm (sg : Nat → Nat) (U : Nat → Int32) (p : Nat) (kx vx ky cy : Int32) : Prop :=
  ky = kx ∧ ((kx = 0 ∧ vx = 0) ∨ (kx = 1 ∧ cy = vx) ∨ (kx = 3 ∧ cy = vx) ∨ (kx = 2 ∧ ∃ s, s < 60 ∧ s / 20 = p ∧ ¬ U s = 0 ∧ vx = nI s ∧ cy = nI (sg s)))
def ph_rel (sg : Nat → Nat) (N : Nat → Nat) (K V U M k c u m : Nat → Int32) : Prop :=
  (∀ p, p < 3 → N p ≤ 3 ∧ M p = nI (N p) ∧ m p = nI (N p)) ∧
  (∀ s, s < 60 → ¬ U s = 0 → sg s < 60 ∧ sg s / 20 = s / 20 ∧ ¬ u (sg s) = 0) ∧
  (∀ s s', s < 60 → s' < 60 → ¬ U s = 0 → ¬ U s' = 0 → sg s = sg s' → s = s') ∧
  (∀ t, t < 60 → ¬ u t = 0 → ∃ s, s < 60 ∧ ¬ U s = 0 ∧ sg s = t) ∧
  (∀ q, q < 141 → ph_live U N q → ph_tm sg U (ph_own q) (K q) (V q) (k (ph_yp sg q)) (c (ph_yp sg q))) ∧
  (∀ q, q < 141 → ¬ ph_live U N q → K q = 0 ∧ V q = 0)
theorem ph_q {q : Nat} (hq : q < 141) : (∃ p i, p < 3 ∧ i < 7 ∧ q = 7 * p + i) ∨ (∃ s b, s < 60 ∧ b < 2 ∧ q = 21 + 2 * s + b) := by
  by_cases h : q < 21
  · exact Or.inl ⟨q / 7, q % 7, by omega, by omega, by omega⟩
  · exact Or.inr ⟨(q - 21) / 2, (q - 21) % 2, by omega, by omega, by omega⟩
theorem ph_q3 {q : Nat} (hq : q < 141) : (∃ p r, p < 3 ∧ r < 4 ∧ q = 7 * p + r) ∨ (∃ p j, p < 3 ∧ j < 3 ∧ q = 7 * p + 4 + j) ∨ (∃ s b, s < 60 ∧ b < 2 ∧ q = 21 + 2 * s + b) := by
  rcases ph_q hq with ⟨p, i, hp, hi, rfl⟩ | h
  · by_cases h : i < 4
    · exact Or.inl ⟨p, i, hp, h, rfl⟩
    · exact Or.inr (Or.inl ⟨p, i - 4, hp, by omega, by omega⟩)
  · exact Or.inr (Or.inr h)
theorem ph_yp_reg {sg : Nat → Nat} {p r : Nat} (hp : p < 3) (hr : r < 4) : ph_yp sg (7 * p + r) = 4 * p + r := by
  unfold ph_yp
  rw [if_pos (by omega), if_pos (by omega)]
  omega
theorem ph_yp_mail {sg : Nat → Nat} {p j : Nat} (hp : p < 3) (hj : j < 3) : ph_yp sg (7 * p + 4 + j) = 12 + 3 * p + j := by
  unfold ph_yp
  rw [if_pos (by omega), if_neg (by omega)]
  omega
theorem ph_yp_slot {sg : Nat → Nat} {s b : Nat} (hb : b < 2) : ph_yp sg (21 + 2 * s + b) = 21 + 2 * sg s + b := by
  have e1 : (21 + 2 * s + b - 21) / 2 = s := by omega
  have e2 : (21 + 2 * s + b - 21) % 2 = b := by omega
  unfold ph_yp
  rw [if_neg (by omega), e1, e2]
theorem ph_live_reg {U : Nat → Int32} {N : Nat → Nat} {p r : Nat} (hp : p < 3) (hr : r < 4) : ph_live U N (7 * p + r) := Or.inl ⟨by omega, by omega⟩
theorem ph_live_mail {U : Nat → Int32} {N : Nat → Nat} {p j : Nat} (hp : p < 3) (hj : j < 3) : ph_live U N (7 * p + 4 + j) ↔ j < N p := by
  have e : (7 * p + 4 + j) / 7 = p := by omega
  unfold ph_live
  rw [e]
  constructor
  · intro h
    rcases h with ⟨_, h⟩ | ⟨h, _⟩ <;> omega
  · intro h
    exact Or.inl ⟨by omega, by omega⟩
theorem ph_live_slot {U : Nat → Int32} {N : Nat → Nat} {s b : Nat} (hb : b < 2) : ph_live U N (21 + 2 * s + b) ↔ ¬ U s = 0 := by
  have e : (21 + 2 * s + b - 21) / 2 = s := by omega
  unfold ph_live
  rw [e]
  constructor
  · intro h
    rcases h with ⟨h, _⟩ | ⟨_, h⟩
    · omega
    · exact h
  · intro h
    exact Or.inr ⟨by omega, h⟩
theorem ph_own_pl {p i : Nat} (hp : p < 3) (hi : i < 7) : ph_own (7 * p + i) = p := by
  unfold ph_own
  rw [if_pos (by omega)]
  omega
theorem ph_own_mail {p j : Nat} (hp : p < 3) (hj : j < 3) : ph_own (7 * p + 4 + j) = p := by
  unfold ph_own
  rw [if_pos (by omega)]
  omega
theorem ph_own_slot {s b : Nat} (hb : b < 2) : ph_own (21 + 2 * s + b) = s / 20 := by
  unfold ph_own
  rw [if_neg (by omega)]
  omega
theorem ph_yp_lt {sg : Nat → Nat} {p i : Nat} (hp : p < 3) (hi : i < 7) : ph_yp sg (7 * p + i) < 21 := by
  unfold ph_yp
  rw [if_pos (by omega)]
  split <;> omega
theorem ph_yp_inj {sg : Nat → Nat} {U : Nat → Int32} {N : Nat → Nat} (hi : ∀ s s', s < 60 → s' < 60 → ¬ U s = 0 → ¬ U s' = 0 → sg s = sg s' → s = s') {q q' : Nat} (hq : q < 141) (hq' : q' < 141) (hl : ph_live U N q) (hl' : ph_live U N q') (e : ph_yp sg q = ph_yp sg q') : q = q' := by
  rcases ph_q hq with ⟨p, i, hp, h7, rfl⟩ | ⟨s, b, hs, hb, rfl⟩
  · rcases ph_q hq' with ⟨p', i', hp', h7', rfl⟩ | ⟨s', b', hs', hb', rfl⟩
    · unfold ph_yp at e
      rw [if_pos (show 7 * p + i < 21 by omega), if_pos (show 7 * p' + i' < 21 by omega)] at e
      split at e <;> split at e <;> omega
    · rw [ph_yp_slot hb'] at e
      have := ph_yp_lt (sg := sg) hp h7
      omega
  · rcases ph_q hq' with ⟨p', i', hp', h7', rfl⟩ | ⟨s', b', hs', hb', rfl⟩
    · rw [ph_yp_slot hb] at e
      have := ph_yp_lt (sg := sg) hp' h7'
      omega
    · rw [ph_yp_slot hb, ph_yp_slot hb'] at e
      have := hi s s' hs hs' ((ph_live_slot hb).mp hl) ((ph_live_slot hb').mp hl') (by omega)
      omega
theorem ph_tm_mono {sg sg' : Nat → Nat} {U U' : Nat → Int32} {p : Nat} {kx vx ky cy : Int32} (h : ph_tm sg U p kx vx ky cy) (hm : ∀ s, s < 60 → kx = 2 → vx = nI s → s / 20 = p → ¬ U s = 0 → ¬ U' s = 0 ∧ sg' s = sg s) : ph_tm sg' U' p kx vx ky cy := by
  obtain ⟨e, h⟩ := h
  refine ⟨e, ?_⟩
  rcases h with h | h | h | ⟨h2, s, h60, hp, hu, hv, hc⟩
  · exact Or.inl h
  · exact Or.inr (Or.inl h)
  · exact Or.inr (Or.inr (Or.inl h))
  · obtain ⟨a, b⟩ := hm s h60 h2 hv hp hu
    exact Or.inr (Or.inr (Or.inr ⟨h2, s, h60, hp, a, hv, by rw [b]; exact hc⟩))
theorem ph_tm_x {sg : Nat → Nat} {U : Nat → Int32} {p : Nat} {kx vx ky cy : Int32} (h : ph_tm sg U p kx vx ky cy) (hk : kx = 2) : ky = 2 ∧ ∃ s, s < 60 ∧ s / 20 = p ∧ ¬ U s = 0 ∧ vx = nI s ∧ cy = nI (sg s) := by
  obtain ⟨e, h⟩ := h
  subst hk
  refine ⟨e, ?_⟩
  rcases h with ⟨h, _⟩ | ⟨h, _⟩ | ⟨h, _⟩ | ⟨_, h⟩
  · exact absurd h (by decide)
  · exact absurd h (by decide)
  · exact absurd h (by decide)
  · exact h
theorem ph_tm_nil {sg : Nat → Nat} {U : Nat → Int32} {p : Nat} {cy : Int32} : ph_tm sg U p 0 0 0 cy := ⟨rfl, Or.inl ⟨rfl, rfl⟩⟩
theorem ph_tm_num {sg : Nat → Nat} {U : Nat → Int32} {p : Nat} {v : Int32} : ph_tm sg U p 1 v 1 v := ⟨rfl, Or.inr (Or.inl ⟨rfl, rfl⟩)⟩
theorem ph_tm_blob {sg : Nat → Nat} {U : Nat → Int32} {p : Nat} {v : Int32} : ph_tm sg U p 3 v 3 v := ⟨rfl, Or.inr (Or.inr (Or.inl ⟨rfl, rfl⟩))⟩
theorem ph_tm_pair {sg : Nat → Nat} {U : Nat → Int32} {p s : Nat} (h : s < 60) (hp : s / 20 = p) (hu : ¬ U s = 0) : ph_tm sg U p 2 (nI s) 2 (nI (sg s)) := ⟨rfl, Or.inr (Or.inr (Or.inr ⟨rfl, s, h, hp, hu, rfl, rfl⟩))⟩
section
variable {sg N : Nat → Nat} {K V U M k c u m : Nat → Int32}
theorem ph_cell (h : ph_rel sg N K V U M k c u m) {s b : Nat} (hs : s < 60) (hb : b < 2) (hu : ¬ U s = 0) : ph_tm sg U (s / 20) (K (21 + 2 * s + b)) (V (21 + 2 * s + b)) (k (21 + 2 * sg s + b)) (c (21 + 2 * sg s + b)) := by
  have := h.2.2.2.2.1 (21 + 2 * s + b) (by omega) ((ph_live_slot hb).mpr hu)
  rw [ph_own_slot hb, ph_yp_slot hb] at this
  exact this
theorem ph_reg (h : ph_rel sg N K V U M k c u m) {p r : Nat} (hp : p < 3) (hr : r < 4) : ph_tm sg U p (K (7 * p + r)) (V (7 * p + r)) (k (4 * p + r)) (c (4 * p + r)) := by
  have := h.2.2.2.2.1 (7 * p + r) (by omega) (ph_live_reg hp hr)
  rw [ph_own_pl hp (by omega), ph_yp_reg hp hr] at this
  exact this
theorem ph_mail (h : ph_rel sg N K V U M k c u m) {p j : Nat} (hp : p < 3) (hj : j < N p) : ph_tm sg U p (K (7 * p + 4 + j)) (V (7 * p + 4 + j)) (k (12 + 3 * p + j)) (c (12 + 3 * p + j)) := by
  have h3 : j < 3 := by have := (h.1 p hp).1; omega
  have := h.2.2.2.2.1 (7 * p + 4 + j) (by omega) ((ph_live_mail hp h3).mpr hj)
  rw [ph_own_mail hp h3, ph_yp_mail hp h3] at this
  exact this
theorem ph_mail0 (h : ph_rel sg N K V U M k c u m) {p j : Nat} (hp : p < 3) (h3 : j < 3) (hj : ¬ j < N p) : K (7 * p + 4 + j) = 0 ∧ V (7 * p + 4 + j) = 0 :=
  h.2.2.2.2.2 (7 * p + 4 + j) (by omega) (fun z => hj ((ph_live_mail hp h3).mp z))
theorem ph_gx (h : ph_rel sg N K V U M k c u m) {q : Nat} (hq : q < 141) (hk : K q = 2) : ∃ s, s < 60 ∧ s / 20 = ph_own q ∧ ¬ U s = 0 ∧ V q = nI s := by
  by_cases hl : ph_live U N q
  · obtain ⟨_, s, a, b, d, e, _⟩ := ph_tm_x (h.2.2.2.2.1 q hq hl) hk
    exact ⟨s, a, b, d, e⟩
  · have := (h.2.2.2.2.2 q hq hl).1
    rw [hk] at this
    exact absurd this (by decide)
theorem ph_thq (h : ph_rel sg N K V U M k c u m) {q : Nat} (hq : q < 141) (hl : ph_live U N q) : ph_yp sg q < 141 ∧ ph_th u N (ph_yp sg q) := by
  rcases ph_q3 hq with ⟨p, r, hp, hr, rfl⟩ | ⟨p, j, hp, hj, rfl⟩ | ⟨s, b, hs, hb, rfl⟩
  · rw [ph_yp_reg hp hr]
    exact ⟨by omega, Or.inl (by omega)⟩
  · rw [ph_yp_mail hp hj]
    have hl' := (ph_live_mail hp hj).mp hl
    have e1 : (12 + 3 * p + j - 12) % 3 = j := by omega
    have e2 : (12 + 3 * p + j - 12) / 3 = p := by omega
    refine ⟨by omega, Or.inr (Or.inl ⟨by omega, by omega, ?_⟩)⟩
    rw [e1, e2]
    exact hl'
  · rw [ph_yp_slot hb]
    have hl' := (ph_live_slot hb).mp hl
    obtain ⟨a, _, d⟩ := h.2.1 s hs hl'
    have e : (21 + 2 * sg s + b - 21) / 2 = sg s := by omega
    refine ⟨by omega, Or.inr (Or.inr ⟨by omega, ?_⟩)⟩
    rw [e]
    exact d
theorem ph_thy (h : ph_rel sg N K V U M k c u m) {y : Nat} (hy : y < 141) (ht : ph_th u N y) : ∃ q, q < 141 ∧ ph_live U N q ∧ ph_yp sg q = y := by
  rcases ht with h1 | ⟨h1, h2, h3⟩ | ⟨h1, h2⟩
  · refine ⟨7 * (y / 4) + y % 4, by omega, ph_live_reg (by omega) (by omega), ?_⟩
    rw [ph_yp_reg (by omega) (by omega)]
    omega
  · refine ⟨7 * ((y - 12) / 3) + 4 + (y - 12) % 3, by omega, (ph_live_mail (by omega) (by omega)).mpr h3, ?_⟩
    rw [ph_yp_mail (by omega) (by omega)]
    omega
  · obtain ⟨s, hs, hu, e⟩ := h.2.2.2.1 ((y - 21) / 2) (by omega) h2
    refine ⟨21 + 2 * s + (y - 21) % 2, by omega, (ph_live_slot (by omega)).mpr hu, ?_⟩
    rw [ph_yp_slot (by omega), e]
    omega
theorem ph_gy (h : ph_rel sg N K V U M k c u m) {y : Nat} (hy : y < 141) (ht : ph_th u N y) (hk : k y = 2) : ∃ t, t < 60 ∧ c y = nI t ∧ ¬ u t = 0 := by
  obtain ⟨q, hq, hl, rfl⟩ := ph_thy h hy ht
  have t := h.2.2.2.2.1 q hq hl
  obtain ⟨_, s, a, b, d, e, f⟩ := ph_tm_x t (t.1.symm.trans hk)
  obtain ⟨g1, _, g3⟩ := h.2.1 s a d
  exact ⟨sg s, g1, f, g3⟩
theorem ph_gys (h : ph_rel sg N K V U M k c u m) {t b : Nat} (ht : t < 60) (hb : b < 2) (hu : ¬ u t = 0) (hk : k (21 + 2 * t + b) = 2) : ∃ t', t' < 60 ∧ c (21 + 2 * t + b) = nI t' ∧ ¬ u t' = 0 := by
  have e : (21 + 2 * t + b - 21) / 2 = t := by omega
  exact ph_gy h (by omega) (Or.inr (Or.inr ⟨by omega, by rw [e]; exact hu⟩)) hk
theorem ph_blob (h : ph_rel sg N K V U M k c u m) (x : Int32) (Ex Ey : Nat → Prop) (hE : ∀ q, q < 141 → ph_live U N q → (Ex q ↔ Ey (ph_yp sg q))) : (∃ q, q < 141 ∧ Ex q ∧ K q = 3 ∧ V q = x) ↔ (∃ y, y < 141 ∧ Ey y ∧ k y = 3 ∧ c y = x ∧ ph_th u N y) := by
  constructor
  · intro ⟨q, hq, he, hk, hv⟩
    by_cases hl : ph_live U N q
    · obtain ⟨a, b⟩ := ph_thq h hq hl
      obtain ⟨t1, t2⟩ := h.2.2.2.2.1 q hq hl
      refine ⟨ph_yp sg q, a, (hE q hq hl).mp he, t1.trans hk, ?_, b⟩
      rw [hk, hv] at t2
      rcases t2 with ⟨z, _⟩ | ⟨z, _⟩ | ⟨_, z⟩ | ⟨z, _⟩
      · exact absurd z (by decide)
      · exact absurd z (by decide)
      · exact z
      · exact absurd z (by decide)
    · have := (h.2.2.2.2.2 q hq hl).1
      rw [hk] at this
      exact absurd this (by decide)
  · intro ⟨y, hy, he, hk, hc, ht⟩
    obtain ⟨q, hq, hl, rfl⟩ := ph_thy h hy ht
    obtain ⟨t1, t2⟩ := h.2.2.2.2.1 q hq hl
    have hk' : K q = 3 := t1.symm.trans hk
    refine ⟨q, hq, (hE q hq hl).mpr he, hk', ?_⟩
    rw [hk', hc] at t2
    rcases t2 with ⟨z, _⟩ | ⟨z, _⟩ | ⟨_, z⟩ | ⟨z, _⟩
    · exact absurd z (by decide)
    · exact absurd z (by decide)
    · exact z.symm
    · exact absurd z (by decide)
theorem ph_set (h : ph_rel sg N K V U M k c u m) {q y : Nat} (hq : q < 141) (hl : ph_live U N q) (hy : ph_yp sg q = y) {kx vx ky cy : Int32} (ht : ph_tm sg U (ph_own q) kx vx ky cy) : ph_rel sg N (upd K q kx) (upd V q vx) U M (upd k y ky) (upd c y cy) u m := by
  obtain ⟨h1, h2, h3, h4, h5, h6⟩ := h
  refine ⟨h1, h2, h3, h4, ?_, ?_⟩
  · intro q' hq' hl'
    by_cases e : q' = q
    · subst e
      rw [hy, pk_us, pk_us, pk_us, pk_us]
      exact ht
    · have e' : ph_yp sg q' ≠ y := fun z => e (ph_yp_inj h3 hq' hq hl' hl (z.trans hy.symm))
      rw [pk_un e, pk_un e, pk_un e', pk_un e']
      exact h5 q' hq' hl'
  · intro q' hq' hl'
    have e : q' ≠ q := fun z => hl' (z ▸ hl)
    rw [pk_un e, pk_un e]
    exact h6 q' hq' hl'
theorem ph_setr (h : ph_rel sg N K V U M k c u m) {p r : Nat} (hp : p < 3) (hr : r < 4) {kx vx ky cy : Int32} (ht : ph_tm sg U p kx vx ky cy) : ph_rel sg N (upd K (7 * p + r) kx) (upd V (7 * p + r) vx) U M (upd k (4 * p + r) ky) (upd c (4 * p + r) cy) u m :=
  ph_set h (by omega) (ph_live_reg hp hr) (ph_yp_reg hp hr) (by rw [ph_own_pl hp (by omega)]; exact ht)
/-- the sets that both sides find are one set -/
theorem ph_corr (h : ph_rel sg N K V U M k c u m) {RX RY SX' SY' : Nat → Prop} (hX : ph_lf K V RX SX') (hY : ph_lf k c RY SY') (r1 : ∀ s, s < 60 → RX s → ¬ U s = 0 ∧ RY (sg s)) (r2 : ∀ t, t < 60 → RY t → ∃ s, s < 60 ∧ RX s ∧ sg s = t) : (∀ s, s < 60 → SX' s → ¬ U s = 0 ∧ SY' (sg s)) ∧ (∀ t, t < 60 → SY' t → ∃ s, s < 60 ∧ ¬ U s = 0 ∧ SX' s ∧ sg s = t) := by
  constructor
  · apply hX.2.2 (fun s => ¬ U s = 0 ∧ SY' (sg s))
    · intro s hs hr
      obtain ⟨a, b⟩ := r1 s hs hr
      exact ⟨a, hY.1 _ (h.2.1 s hs a).1 b⟩
    · intro s b t hs hb ht hS ho
      obtain ⟨a1, a2⟩ := hS
      obtain ⟨e1, s', hs', _, hu', hv', hc'⟩ := ph_tm_x (ph_cell h hs hb a1) ho.1
      have : s' = t := ph_inj (by omega) (by omega) (hv'.symm.trans ho.2)
      subst this
      exact ⟨hu', hY.2.1 (sg s) b (sg s') (h.2.1 s hs a1).1 hb (h.2.1 s' hs' hu').1 a2 ⟨e1, hc'⟩⟩
  · apply hY.2.2 (fun t => ∃ s, s < 60 ∧ ¬ U s = 0 ∧ SX' s ∧ sg s = t)
    · intro t ht hr
      obtain ⟨s, hs, hr', e⟩ := r2 t ht hr
      exact ⟨s, hs, (r1 s hs hr').1, hX.1 s hs hr', e⟩
    · intro t b t' ht hb ht' hS ho
      obtain ⟨s, hs, hu, hx, rfl⟩ := hS
      have tm := ph_cell h hs hb hu
      have k2 : K (21 + 2 * s + b) = 2 := tm.1.symm.trans ho.1
      obtain ⟨_, s', hs', _, hu', hv', hc'⟩ := ph_tm_x tm k2
      have : sg s' = t' := ph_inj (by have := (h.2.1 s' hs' hu').1; omega) (by omega) (hc'.symm.trans ho.2)
      exact ⟨s', hs', hu', hX.2.1 s b s' hs hb hs' hx ⟨k2, hv'⟩, this⟩
/-- what is found from cells of process p lies in p's heap -/
theorem ph_inp (h : ph_rel sg N K V U M k c u m) {p : Nat} {R S : Nat → Prop} (hX : ph_lf K V R S) (hr : ∀ s, s < 60 → R s → s / 20 = p ∧ ¬ U s = 0) : ∀ s, s < 60 → S s → s / 20 = p ∧ ¬ U s = 0 := by
  apply hX.2.2 (fun s => s / 20 = p ∧ ¬ U s = 0) hr
  intro s b t hs hb ht hS ho
  obtain ⟨_, s', _, e, hu', hv', _⟩ := ph_tm_x (ph_cell h hs hb hS.2) ho.1
  have : s' = t := ph_inj (by omega) (by omega) (hv'.symm.trans ho.2)
  subst this
  exact ⟨e.trans hS.1, hu'⟩
/-- pairs of process p outside of S are removed -/
theorem ph_clean (h : ph_rel sg N K V U M k c u m) {p : Nat} {S T : Nat → Prop} {K' V' U' u' : Nat → Int32} (hST : ∀ s, s < 60 → ¬ U s = 0 → s / 20 = p → (S s ↔ T (sg s))) (hcl : ph_cl K V S) (hro : ∀ i s, i < 7 → s < 60 → ph_ho K V (7 * p + i) s → S s) (hU : ∀ s, s < 60 → (¬ U' s = 0 ↔ ¬ U s = 0 ∧ (s / 20 = p → S s))) (hu : ∀ t, t < 60 → (¬ u' t = 0 ↔ ¬ u t = 0 ∧ (t / 20 = p → T t)))
    (hK : ∀ q, q < 141 → ph_live U' N q → K' q = K q ∧ V' q = V q) (hK0 : ∀ q, q < 141 → ¬ ph_live U' N q → K' q = 0 ∧ V' q = 0) : ph_rel sg N K' V' U' M k c u' m := by
  have hr := h
  obtain ⟨h1, h2, h3, h4, h5, h6⟩ := h
  have hUU : ∀ s, s < 60 → ¬ U' s = 0 → ¬ U s = 0 := fun s hs z => ((hU s hs).mp z).1
  refine ⟨h1, ?_, ?_, ?_, ?_, hK0⟩
  · intro s hs hz
    obtain ⟨a, b⟩ := (hU s hs).mp hz
    obtain ⟨d, e, f⟩ := h2 s hs a
    exact ⟨d, e, (hu _ d).mpr ⟨f, fun z => (hST s hs a (e.symm.trans z)).mp (b (e.symm.trans z))⟩⟩
  · intro s s' hs hs' hz hz' e
    exact h3 s s' hs hs' (hUU s hs hz) (hUU s' hs' hz') e
  · intro t ht hz
    obtain ⟨a, b⟩ := (hu t ht).mp hz
    obtain ⟨s, hs, hus, rfl⟩ := h4 t ht a
    obtain ⟨d, e, f⟩ := h2 s hs hus
    exact ⟨s, hs, (hU s hs).mpr ⟨hus, fun z => (hST s hs hus z).mpr (b (e.trans z))⟩, rfl⟩
  · intro q hq hl
    obtain ⟨e1, e2⟩ := hK q hq hl
    rw [e1, e2]
    have hl0 : ph_live U N q := by
      rcases hl with hl | ⟨a, b⟩
      · exact Or.inl hl
      · exact Or.inr ⟨a, hUU _ (by omega) b⟩
    refine ph_tm_mono (h5 q hq hl0) (fun s hs k2 hv hp' hus => ⟨(hU s hs).mpr ⟨hus, fun z => ?_⟩, rfl⟩)
    rcases ph_q hq with ⟨p', i, hp3, h7, rfl⟩ | ⟨s0, b, hs0, hb, rfl⟩
    · rw [ph_own_pl hp3 h7] at hp'
      have : p' = p := hp'.symm.trans z
      subst this
      exact hro i s h7 hs ⟨k2, hv⟩
    · rw [ph_own_slot hb] at hp'
      obtain ⟨_, g⟩ := (hU s0 hs0).mp ((ph_live_slot hb).mp hl)
      exact hcl s0 b s hs0 hb hs (g (hp'.symm.trans z)) ⟨k2, hv⟩
/-- new pairs -/
theorem ph_ext (h : ph_rel sg N K V U M k c u m) (A : Nat → Prop) {sg' : Nat → Nat} {K' V' U' k' c' u' : Nat → Int32} (hA : ∀ s, s < 60 → A s → U s = 0) (hU : ∀ s, s < 60 → (¬ U' s = 0 ↔ ¬ U s = 0 ∨ A s)) (hu : ∀ t, t < 60 → (¬ u' t = 0 ↔ ¬ u t = 0 ∨ ∃ s, s < 60 ∧ A s ∧ sg' s = t)) (hB : ∀ s, s < 60 → A s → sg' s < 60 ∧ sg' s / 20 = s / 20 ∧ u (sg' s) = 0) (hi : ∀ s s', s < 60 → s' < 60 → A s → A s' → sg' s = sg' s' → s = s') (hs : ∀ s, s < 60 → ¬ U s = 0 → sg' s = sg s)
    (hX : ∀ q, q < 141 → (∀ s b, s < 60 → b < 2 → A s → q ≠ 21 + 2 * s + b) → K' q = K q ∧ V' q = V q) (hY : ∀ y, y < 141 → (∀ s b, s < 60 → b < 2 → A s → y ≠ 21 + 2 * sg' s + b) → k' y = k y ∧ c' y = c y) (hN : ∀ s b, s < 60 → b < 2 → A s → ph_tm sg' U' (s / 20) (K' (21 + 2 * s + b)) (V' (21 + 2 * s + b)) (k' (21 + 2 * sg' s + b)) (c' (21 + 2 * sg' s + b))) : ph_rel sg' N K' V' U' M k' c' u' m := by
  have hr := h
  obtain ⟨h1, h2, h3, h4, h5, h6⟩ := h
  refine ⟨h1, ?_, ?_, ?_, ?_, ?_⟩
  · intro s h60 hz
    rcases (hU s h60).mp hz with a | a
    · rw [hs s h60 a]
      obtain ⟨d, e, f⟩ := h2 s h60 a
      exact ⟨d, e, (hu _ d).mpr (Or.inl f)⟩
    · obtain ⟨d, e, f⟩ := hB s h60 a
      exact ⟨d, e, (hu _ d).mpr (Or.inr ⟨s, h60, a, rfl⟩)⟩
  · intro s s' h60 h60' hz hz' e
    rcases (hU s h60).mp hz with a | a
    · rcases (hU s' h60').mp hz' with a' | a'
      · rw [hs s h60 a, hs s' h60' a'] at e
        exact h3 s s' h60 h60' a a' e
      · rw [hs s h60 a] at e
        have x := (hB s' h60' a').2.2
        rw [← e] at x
        exact absurd x (h2 s h60 a).2.2
    · rcases (hU s' h60').mp hz' with a' | a'
      · rw [hs s' h60' a'] at e
        have x := (hB s h60 a).2.2
        rw [e] at x
        exact absurd x (h2 s' h60' a').2.2
      · exact hi s s' h60 h60' a a' e
  · intro t ht hz
    rcases (hu t ht).mp hz with a | ⟨s, h60, a, e⟩
    · obtain ⟨s, h60, hus, rfl⟩ := h4 t ht a
      exact ⟨s, h60, (hU s h60).mpr (Or.inl hus), hs s h60 hus⟩
    · exact ⟨s, h60, (hU s h60).mpr (Or.inr a), e⟩
  · intro q hq hl
    have old : ∀ (hl0 : ph_live U N q) (ha : ∀ s b, s < 60 → b < 2 → A s → q ≠ 21 + 2 * s + b) (hy : ph_yp sg' q = ph_yp sg q) (hya : ∀ s b, s < 60 → b < 2 → A s → ph_yp sg q ≠ 21 + 2 * sg' s + b), ph_tm sg' U' (ph_own q) (K' q) (V' q) (k' (ph_yp sg' q)) (c' (ph_yp sg' q)) := by
      intro hl0 ha hy hya
      obtain ⟨e1, e2⟩ := hX q hq ha
      obtain ⟨e3, e4⟩ := hY (ph_yp sg q) (ph_thq hr hq hl0).1 hya
      rw [hy, e1, e2, e3, e4]
      exact ph_tm_mono (h5 q hq hl0) (fun s h60 _ _ _ hus => ⟨(hU s h60).mpr (Or.inl hus), hs s h60 hus⟩)
    rcases ph_q hq with ⟨p, i, hp, h7, rfl⟩ | ⟨s0, b0, hs0, hb0, rfl⟩
    · have hl0 : ph_live U N (7 * p + i) := by
        rcases hl with hl | ⟨a, _⟩
        · exact Or.inl hl
        · omega
      refine old hl0 (fun s b _ _ _ => by omega) ?_ (fun s b _ _ _ => ?_)
      · unfold ph_yp
        rw [if_pos (show 7 * p + i < 21 by omega), if_pos (show 7 * p + i < 21 by omega)]
      · have := ph_yp_lt (sg := sg) hp h7
        omega
    · rcases (hU s0 hs0).mp ((ph_live_slot hb0).mp hl) with a | a
      · refine old ((ph_live_slot hb0).mpr a) (fun s b h60 hb hAs z => ?_) ?_ (fun s b h60 hb hAs => ?_)
        · have : s = s0 := by omega
          subst this
          exact a (hA s h60 hAs)
        · rw [ph_yp_slot hb0, ph_yp_slot hb0, hs s0 hs0 a]
        · rw [ph_yp_slot hb0]
          intro z
          have e : sg' s = sg s0 := by omega
          have x := (hB s h60 hAs).2.2
          rw [e] at x
          exact (h2 s0 hs0 a).2.2 x
      · rw [ph_own_slot hb0, ph_yp_slot hb0]
        exact hN s0 b0 hs0 hb0 a
  · intro q hq hl
    have hl0 : ¬ ph_live U N q := by
      intro z
      rcases z with z | ⟨a, b⟩
      · exact hl (Or.inl z)
      · exact hl (Or.inr ⟨a, (hU _ (by omega)).mpr (Or.inl b)⟩)
    obtain ⟨e1, e2⟩ := hX q hq (fun s b h60 hb hAs z => hl (by rw [z]; exact (ph_live_slot hb).mpr ((hU s h60).mpr (Or.inr hAs))))
    rw [e1, e2]
    exact h6 q hq hl0
end
