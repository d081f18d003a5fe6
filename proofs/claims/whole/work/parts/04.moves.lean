/-! what the methods do to the relation -/
def ph_nu (N : Nat → Nat) (p n : Nat) : Nat → Nat := fun j => if j = p then n else N j
theorem ph_nus {N : Nat → Nat} {p n : Nat} : ph_nu N p n p = n := if_pos rfl
theorem ph_nun {N : Nat → Nat} {p n j : Nat} (h : j ≠ p) : ph_nu N p n j = N j := if_neg h
section
variable {sg N : Nat → Nat} {K V U M k c u m : Nat → Int32}
theorem ph_mk (h1 : ∀ p, p < 3 → N p ≤ 3 ∧ M p = nI (N p) ∧ m p = nI (N p)) (h2 : ∀ s, s < 60 → ¬ U s = 0 → sg s < 60 ∧ sg s / 20 = s / 20 ∧ ¬ u (sg s) = 0) (h3 : ∀ s s', s < 60 → s' < 60 → ¬ U s = 0 → ¬ U s' = 0 → sg s = sg s' → s = s') (h4 : ∀ t, t < 60 → ¬ u t = 0 → ∃ s, s < 60 ∧ ¬ U s = 0 ∧ sg s = t)
    (hr : ∀ p r, p < 3 → r < 4 → ph_tm sg U p (K (7 * p + r)) (V (7 * p + r)) (k (4 * p + r)) (c (4 * p + r))) (hm : ∀ p j, p < 3 → j < 3 → j < N p → ph_tm sg U p (K (7 * p + 4 + j)) (V (7 * p + 4 + j)) (k (12 + 3 * p + j)) (c (12 + 3 * p + j))) (hm0 : ∀ p j, p < 3 → j < 3 → ¬ j < N p → K (7 * p + 4 + j) = 0 ∧ V (7 * p + 4 + j) = 0)
    (hs : ∀ s b, s < 60 → b < 2 → ¬ U s = 0 → ph_tm sg U (s / 20) (K (21 + 2 * s + b)) (V (21 + 2 * s + b)) (k (21 + 2 * sg s + b)) (c (21 + 2 * sg s + b))) (hs0 : ∀ s b, s < 60 → b < 2 → U s = 0 → K (21 + 2 * s + b) = 0 ∧ V (21 + 2 * s + b) = 0) : ph_rel sg N K V U M k c u m := by
  refine ⟨h1, h2, h3, h4, ?_, ?_⟩
  · intro q hq hl
    rcases ph_q3 hq with ⟨p, r, hp, h7, rfl⟩ | ⟨p, j, hp, hj, rfl⟩ | ⟨s, b, h60, hb, rfl⟩
    · rw [ph_own_pl hp (by omega), ph_yp_reg hp h7]
      exact hr p r hp h7
    · rw [ph_own_mail hp hj, ph_yp_mail hp hj]
      exact hm p j hp hj ((ph_live_mail hp hj).mp hl)
    · rw [ph_own_slot hb, ph_yp_slot hb]
      exact hs s b h60 hb ((ph_live_slot hb).mp hl)
  · intro q hq hl
    rcases ph_q3 hq with ⟨p, r, hp, h7, rfl⟩ | ⟨p, j, hp, hj, rfl⟩ | ⟨s, b, h60, hb, rfl⟩
    · exact absurd (ph_live_reg hp h7) hl
    · exact hm0 p j hp hj (fun z => hl ((ph_live_mail hp hj).mpr z))
    · exact hs0 s b h60 hb (Classical.byContradiction (fun z => hl ((ph_live_slot hb).mpr z)))
theorem ph_cell0 (h : ph_rel sg N K V U M k c u m) {s b : Nat} (hs : s < 60) (hb : b < 2) (hu : U s = 0) : K (21 + 2 * s + b) = 0 ∧ V (21 + 2 * s + b) = 0 :=
  h.2.2.2.2.2 (21 + 2 * s + b) (by omega) (fun z => (ph_live_slot hb).mp z hu)
theorem ph_cnt (h : ph_rel sg N K V U M k c u m) {p : Nat} (hp : p < 3) : ph_ct U (20 * p) 20 = ph_ct u (20 * p) 20 := by
  apply ph_ct_bij sg
  · intro i h1 h2 hz
    obtain ⟨a, b, d⟩ := h.2.1 i (by omega) hz
    exact ⟨by omega, by omega, d⟩
  · intro i j h1 h2 h3 h4 hz hz' e
    exact h.2.2.1 i j (by omega) (by omega) hz hz' e
  · intro t h1 h2 hz
    obtain ⟨s, hs, hu, e⟩ := h.2.2.2.1 t (by omega) hz
    obtain ⟨a, b, d⟩ := h.2.1 s hs hu
    exact ⟨s, by omega, by omega, hu, e⟩
theorem ph_fnd (h : ph_rel sg N K V U M k c u m) {P Q : Nat → Int32} (h1 : ∀ s, s < 60 → ¬ P s = 0 → ¬ U s = 0 ∧ ¬ Q (sg s) = 0) (h2 : ∀ t, t < 60 → ¬ Q t = 0 → ∃ s, s < 60 ∧ ¬ U s = 0 ∧ ¬ P s = 0 ∧ sg s = t) : ph_ct P 0 60 = ph_ct Q 0 60 := by
  apply ph_ct_bij sg
  · intro i _ hi hz
    obtain ⟨a, b⟩ := h1 i (by omega) hz
    have := (h.2.1 i (by omega) a).1
    exact ⟨by omega, by omega, b⟩
  · intro i j _ hi _ hj hz hz' e
    exact h.2.2.1 i j (by omega) (by omega) (h1 i (by omega) hz).1 (h1 j (by omega) hz').1 e
  · intro t _ ht hz
    obtain ⟨s, hs, _, hp, e⟩ := h2 t (by omega) hz
    exact ⟨s, by omega, by omega, hp, e⟩
theorem ph_push (h : ph_rel sg N K V U M k c u m) {p : Nat} (hp : p < 3) (hn : N p < 3) {kx vx ky cy : Int32} (ht : ph_tm sg U p kx vx ky cy) : ph_rel sg (ph_nu N p (N p + 1)) (upd K (7 * p + 4 + N p) kx) (upd V (7 * p + 4 + N p) vx) U (upd M p (nI (N p + 1))) (upd k (12 + 3 * p + N p) ky) (upd c (12 + 3 * p + N p) cy) u (upd m p (nI (N p + 1))) := by
  refine ph_mk ?_ h.2.1 h.2.2.1 h.2.2.2.1 ?_ ?_ ?_ ?_ ?_
  · intro p' hp'
    by_cases e : p' = p
    · subst e
      rw [ph_nus, pk_us, pk_us]
      exact ⟨by omega, rfl, rfl⟩
    · rw [ph_nun e, pk_un e, pk_un e]
      exact h.1 p' hp'
  · intro p' r hp' hr
    rw [pk_un (by omega), pk_un (by omega), pk_un (by omega), pk_un (by omega)]
    exact ph_reg h hp' hr
  · intro p' j hp' hj hl
    by_cases e : p' = p
    · subst e
      rw [ph_nus] at hl
      by_cases e2 : j = N p'
      · subst e2
        rw [pk_us, pk_us, pk_us, pk_us]
        exact ht
      · rw [pk_un (by omega), pk_un (by omega), pk_un (by omega), pk_un (by omega)]
        exact ph_mail h hp' (by omega)
    · rw [ph_nun e] at hl
      rw [pk_un (by omega), pk_un (by omega), pk_un (by omega), pk_un (by omega)]
      exact ph_mail h hp' hl
  · intro p' j hp' hj hl
    have e : 7 * p' + 4 + j ≠ 7 * p + 4 + N p := by
      intro z
      have e : p' = p := by omega
      subst e
      rw [ph_nus] at hl
      omega
    rw [pk_un e, pk_un e]
    refine ph_mail0 h hp' hj (fun z => hl ?_)
    by_cases e : p' = p
    · subst e
      rw [ph_nus]
      omega
    · rw [ph_nun e]
      exact z
  · intro s b hs hb hu
    rw [pk_un (by omega), pk_un (by omega), pk_un (by omega), pk_un (by omega)]
    exact ph_cell h hs hb hu
  · intro s b hs hb hu
    rw [pk_un (by omega), pk_un (by omega)]
    exact ph_cell0 h hs hb hu
theorem ph_shift (h : ph_rel sg N K V U M k c u m) {p : Nat} (hp : p < 3) (hn : 0 < N p) {K' V' k' c' : Nat → Int32} (a1 : ∀ j, j < 2 → K' (7 * p + 4 + j) = K (7 * p + 4 + (j + 1)) ∧ V' (7 * p + 4 + j) = V (7 * p + 4 + (j + 1))) (a2 : K' (7 * p + 4 + 2) = 0 ∧ V' (7 * p + 4 + 2) = 0) (a3 : ∀ q, q < 141 → (∀ j, j < 3 → q ≠ 7 * p + 4 + j) → K' q = K q ∧ V' q = V q) (b1 : ∀ j, j < 2 → k' (12 + 3 * p + j) = k (12 + 3 * p + (j + 1)) ∧ c' (12 + 3 * p + j) = c (12 + 3 * p + (j + 1))) (b3 : ∀ y, y < 141 → (∀ j, j < 3 → y ≠ 12 + 3 * p + j) → k' y = k y ∧ c' y = c y) :
    ph_rel sg (ph_nu N p (N p - 1)) K' V' U (upd M p (nI (N p - 1))) k' c' u (upd m p (nI (N p - 1))) := by
  have h13 := (h.1 p hp).1
  refine ph_mk ?_ h.2.1 h.2.2.1 h.2.2.2.1 ?_ ?_ ?_ ?_ ?_
  · intro p' hp'
    by_cases e : p' = p
    · subst e
      rw [ph_nus, pk_us, pk_us]
      exact ⟨by omega, rfl, rfl⟩
    · rw [ph_nun e, pk_un e, pk_un e]
      exact h.1 p' hp'
  · intro p' r hp' hr
    obtain ⟨e1, e2⟩ := a3 (7 * p' + r) (by omega) (fun j hj => by omega)
    obtain ⟨e3, e4⟩ := b3 (4 * p' + r) (by omega) (fun j hj => by omega)
    rw [e1, e2, e3, e4]
    exact ph_reg h hp' hr
  · intro p' j hp' hj hl
    by_cases e : p' = p
    · subst e
      rw [ph_nus] at hl
      obtain ⟨e1, e2⟩ := a1 j (by omega)
      obtain ⟨e3, e4⟩ := b1 j (by omega)
      rw [e1, e2, e3, e4]
      exact ph_mail h hp' (by omega)
    · rw [ph_nun e] at hl
      obtain ⟨e1, e2⟩ := a3 (7 * p' + 4 + j) (by omega) (fun j hj => by omega)
      obtain ⟨e3, e4⟩ := b3 (12 + 3 * p' + j) (by omega) (fun j hj => by omega)
      rw [e1, e2, e3, e4]
      exact ph_mail h hp' hl
  · intro p' j hp' hj hl
    by_cases e : p' = p
    · subst e
      rw [ph_nus] at hl
      by_cases e2 : j = 2
      · subst e2
        exact a2
      · obtain ⟨e1, e2⟩ := a1 j (by omega)
        rw [e1, e2]
        exact ph_mail0 h hp' (by omega) (by omega)
    · rw [ph_nun e] at hl
      obtain ⟨e1, e2⟩ := a3 (7 * p' + 4 + j) (by omega) (fun j hj => by omega)
      rw [e1, e2]
      exact ph_mail0 h hp' hj hl
  · intro s b hs hb hu
    have := (h.2.1 s hs hu).1
    obtain ⟨e1, e2⟩ := a3 (21 + 2 * s + b) (by omega) (fun j hj => by omega)
    obtain ⟨e3, e4⟩ := b3 (21 + 2 * sg s + b) (by omega) (fun j hj => by omega)
    rw [e1, e2, e3, e4]
    exact ph_cell h hs hb hu
  · intro s b hs hb hu
    obtain ⟨e1, e2⟩ := a3 (21 + 2 * s + b) (by omega) (fun j hj => by omega)
    rw [e1, e2]
    exact ph_cell0 h hs hb hu
theorem ph_wipe (h : ph_rel sg N K V U M k c u m) {p : Nat} (hp : p < 3) {K' V' k' c' : Nat → Int32} (a1 : ∀ i, i < 7 → K' (7 * p + i) = 0 ∧ V' (7 * p + i) = 0) (a3 : ∀ q, q < 141 → (∀ i, i < 7 → q ≠ 7 * p + i) → K' q = K q ∧ V' q = V q) (b1 : ∀ r, r < 4 → k' (4 * p + r) = 0) (b3 : ∀ y, y < 141 → (∀ r, r < 4 → y ≠ 4 * p + r) → k' y = k y ∧ c' y = c y) :
    ph_rel sg (ph_nu N p 0) K' V' U (upd M p 0) k' c' u (upd m p 0) := by
  refine ph_mk ?_ h.2.1 h.2.2.1 h.2.2.2.1 ?_ ?_ ?_ ?_ ?_
  · intro p' hp'
    by_cases e : p' = p
    · subst e
      rw [ph_nus, pk_us, pk_us]
      exact ⟨by omega, rfl, rfl⟩
    · rw [ph_nun e, pk_un e, pk_un e]
      exact h.1 p' hp'
  · intro p' r hp' hr
    by_cases e : p' = p
    · subst e
      obtain ⟨e1, e2⟩ := a1 r (by omega)
      rw [e1, e2, b1 r hr]
      exact ph_tm_nil
    · obtain ⟨e1, e2⟩ := a3 (7 * p' + r) (by omega) (fun j hj => by omega)
      obtain ⟨e3, e4⟩ := b3 (4 * p' + r) (by omega) (fun j hj => by omega)
      rw [e1, e2, e3, e4]
      exact ph_reg h hp' hr
  · intro p' j hp' hj hl
    by_cases e : p' = p
    · subst e
      rw [ph_nus] at hl
      omega
    · rw [ph_nun e] at hl
      obtain ⟨e1, e2⟩ := a3 (7 * p' + 4 + j) (by omega) (fun j hj => by omega)
      obtain ⟨e3, e4⟩ := b3 (12 + 3 * p' + j) (by omega) (fun j hj => by omega)
      rw [e1, e2, e3, e4]
      exact ph_mail h hp' hl
  · intro p' j hp' hj hl
    by_cases e : p' = p
    · subst e
      have := a1 (4 + j) (by omega)
      rw [← Nat.add_assoc] at this
      exact this
    · rw [ph_nun e] at hl
      obtain ⟨e1, e2⟩ := a3 (7 * p' + 4 + j) (by omega) (fun j hj => by omega)
      rw [e1, e2]
      exact ph_mail0 h hp' hj hl
  · intro s b hs hb hu
    have := (h.2.1 s hs hu).1
    obtain ⟨e1, e2⟩ := a3 (21 + 2 * s + b) (by omega) (fun j hj => by omega)
    obtain ⟨e3, e4⟩ := b3 (21 + 2 * sg s + b) (by omega) (fun j hj => by omega)
    rw [e1, e2, e3, e4]
    exact ph_cell h hs hb hu
  · intro s b hs hb hu
    obtain ⟨e1, e2⟩ := a3 (21 + 2 * s + b) (by omega) (fun j hj => by omega)
    rw [e1, e2]
    exact ph_cell0 h hs hb hu
theorem ph_pair (h : ph_rel sg N K V U M k c u m) {p sx sy : Nat} (hx : sx < 60) (hxp : sx / 20 = p) (hxu : U sx = 0) (hy : sy < 60) (hyp : sy / 20 = p) (hyu : u sy = 0) {x0 : Int32} (hx0 : ¬ x0 = 0) {kx vx ky cy kx' vx' ky' cy' : Int32} (t0 : ph_tm sg U p kx vx ky cy) (t1 : ph_tm sg U p kx' vx' ky' cy') :
    ∃ sg', sg' sx = sy ∧ ph_rel sg' N (upd (upd K (21 + 2 * sx) kx) (21 + 2 * sx + 1) kx') (upd (upd V (21 + 2 * sx) vx) (21 + 2 * sx + 1) vx') (upd U sx x0) M (upd (upd k (21 + 2 * sy) ky) (21 + 2 * sy + 1) ky') (upd (upd c (21 + 2 * sy) cy) (21 + 2 * sy + 1) cy') (upd u sy x0) m := by
  have es : (fun s => if s = sx then sy else sg s) sx = sy := if_pos rfl
  have en : ∀ s, s ≠ sx → (fun s => if s = sx then sy else sg s) s = sg s := fun s z => if_neg z
  generalize (fun s => if s = sx then sy else sg s) = sg' at es en
  have mono : ∀ {a b d e : Int32}, ph_tm sg U p a b d e → ph_tm sg' (upd U sx x0) p a b d e := by
    intro a b d e t
    refine ph_tm_mono t (fun s _ _ _ _ hu => ?_)
    have z : s ≠ sx := fun z => hu (z ▸ hxu)
    exact ⟨by rw [pk_un z]; exact hu, en s z⟩
  refine ⟨sg', es, ph_ext h (fun s => s = sx) ?_ ?_ ?_ ?_ ?_ ?_ ?_ ?_ ?_⟩
  · intro s _ e
    have e : s = sx := e
    rw [e]
    exact hxu
  · intro s _
    by_cases e : s = sx
    · subst e
      rw [pk_us]
      exact ⟨fun _ => Or.inr rfl, fun _ => hx0⟩
    · rw [pk_un e]
      exact ⟨fun z => Or.inl z, fun z => z.elim id (fun w => absurd w e)⟩
  · intro t _
    by_cases e : t = sy
    · subst e
      rw [pk_us]
      exact ⟨fun _ => Or.inr ⟨sx, hx, rfl, es⟩, fun _ => hx0⟩
    · rw [pk_un e]
      refine ⟨fun z => Or.inl z, fun z => z.elim id (fun ⟨s, _, w, w'⟩ => ?_)⟩
      have w : s = sx := w
      rw [w, es] at w'
      exact absurd w'.symm e
  · intro s _ e
    have e : s = sx := e
    rw [e, es]
    exact ⟨hy, hyp.trans hxp.symm, hyu⟩
  · intro s s' _ _ e e' _
    exact e.trans e'.symm
  · intro s _ hu
    exact en s (fun z => hu (z ▸ hxu))
  · intro q _ hq
    have z0 := hq sx 0 hx (by omega) rfl
    have z1 := hq sx 1 hx (by omega) rfl
    rw [pk_un (by omega), pk_un (by omega), pk_un (by omega), pk_un (by omega)]
    exact ⟨rfl, rfl⟩
  · intro y _ hq
    have z0 := hq sx 0 hx (by omega) rfl
    have z1 := hq sx 1 hx (by omega) rfl
    rw [es] at z0 z1
    rw [pk_un (by omega), pk_un (by omega), pk_un (by omega), pk_un (by omega)]
    exact ⟨rfl, rfl⟩
  · intro s b _ hb e
    have e : s = sx := e
    have n1 : 21 + 2 * sx ≠ 21 + 2 * sx + 1 := by omega
    have n2 : 21 + 2 * sy ≠ 21 + 2 * sy + 1 := by omega
    rw [e, es, hxp]
    by_cases b0 : b = 0
    · subst b0
      show ph_tm _ _ _ (upd (upd K (21 + 2 * sx) kx) (21 + 2 * sx + 1) kx' (21 + 2 * sx)) (upd (upd V (21 + 2 * sx) vx) (21 + 2 * sx + 1) vx' (21 + 2 * sx)) (upd (upd k (21 + 2 * sy) ky) (21 + 2 * sy + 1) ky' (21 + 2 * sy)) (upd (upd c (21 + 2 * sy) cy) (21 + 2 * sy + 1) cy' (21 + 2 * sy))
      rw [pk_un n1, pk_un n1, pk_un n2, pk_un n2, pk_us, pk_us, pk_us, pk_us]
      exact mono t0
    · have b1 : b = 1 := by omega
      subst b1
      rw [pk_us, pk_us, pk_us, pk_us]
      exact mono t1
end
