section
/-! rows pasted from the kit's pure rows (a starting text) -/
theorem pk_us {f : Nat → Int32} {k : Nat} {x : Int32} : upd f k x k = x := if_pos rfl
theorem pk_un {f : Nat → Int32} {k j : Nat} {x : Int32} (h : j ≠ k) : upd f k x j = f j := if_neg h
theorem pk_sub {a b : Nat} (h : b ≤ a) : nI a - nI b = nI (a - b) := by
  obtain ⟨c, rfl⟩ : ∃ c, a = c + b := ⟨a - b, by omega⟩
  rw [← nI_add, Int32.add_sub_cancel, Nat.add_sub_cancel]
theorem pk_m1 (n : Nat) : nI (n + 1) + (-1) = nI n := by
  rw [← nI_1, Int32.add_assoc, show (1 : Int32) + (-1) = 0 from rfl, Int32.add_zero]
theorem pk_mul (a b : Nat) : nI a * nI b = nI (a * b) := (Int32.ofNat_mul a b).symm
theorem pk_div {a d : Nat} (ha : a < 2 ^ 31) (h0 : 0 < d) (hd : d < 2 ^ 31) : nI a / nI d = nI (a / d) := by
  apply Int32.toInt_inj.mp
  rw [lg_idiv_nonneg (by rw [nI_toInt ha]; omega) (by rw [nI_toInt hd]; omega), nI_toInt ha, nI_toInt hd, nI_toInt (Nat.lt_of_le_of_lt (Nat.div_le_self a d) ha)]
  first | rfl | exact (Int.natCast_ediv _ _).symm
theorem pk_rem {a d : Nat} (ha : a < 2 ^ 31) (h0 : 0 < d) (hd : d < 2 ^ 31) : nI a - nI a / nI d * nI d = nI (a % d) := by
  rw [pk_div ha h0 hd, pk_mul, pk_sub (Nat.div_mul_le_self a d)]
  exact congrArg nI (by have := Nat.div_add_mod' a d; omega)
theorem pk_sub_toInt {a b : Nat} (ha : a < 2 ^ 30) (hb : b < 2 ^ 30) : (nI a - nI b).toInt = (a : Int) - b := by
  rw [Int32.toInt_sub, nI_toInt (by omega), nI_toInt (by omega)]
  exact Int.bmod_eq_of_le (by omega) (by omega)
theorem pk_ix (x : Int32) {n : Nat} (hn : n < 2 ^ 31) : x < 0 ∨ nI n ≤ x ∨ ∃ j : Nat, j < n ∧ x = nI j := by
  by_cases h : x < 0
  · exact Or.inl h
  · obtain ⟨j, hj, rfl⟩ := nI_of h
    by_cases h2 : j < n
    · exact Or.inr (Or.inr ⟨j, h2, rfl⟩)
    · exact Or.inr (Or.inl (nI_le (by omega) hj))
theorem pk_le {x y : Int32} {A B : Prop} (a b : Nat) (f : a ≤ b → A) (g : b < a → B) (hx : x = nI a := by rfl) (hy : y = nI b := by rfl) (ha : a < 2 ^ 31 := by omega) (hb : b < 2 ^ 31 := by omega) : (x ≤ y → A) ∧ (¬ x ≤ y → B) := by
  subst hx hy
  rw [nI_leI ha hb]
  exact ⟨f, fun z => g (by omega)⟩
theorem pk_lt {x y : Int32} {A B : Prop} (a b : Nat) (f : a < b → A) (g : b ≤ a → B) (hx : x = nI a := by rfl) (hy : y = nI b := by rfl) (ha : a < 2 ^ 31 := by omega) (hb : b < 2 ^ 31 := by omega) : (x < y → A) ∧ (¬ x < y → B) := by
  subst hx hy
  rw [nI_ltI ha hb]
  exact ⟨f, fun z => g (by omega)⟩
theorem pk_eq {x y : Int32} {A B : Prop} (a b : Nat) (f : a = b → A) (g : a ≠ b → B) (hx : x = nI a := by rfl) (hy : y = nI b := by rfl) (ha : a < 2 ^ 31 := by omega) (hb : b < 2 ^ 31 := by omega) : (x = y → A) ∧ (¬ x = y → B) := by
  subst hx hy
  rw [nI_eq ha hb]
  exact ⟨f, g⟩
theorem pk_in {x : Int32} (n N : Nat) (h : n < N) (hx : x = nI n := by rfl) (hN : N < 2 ^ 31 := by omega) : vp_in x N := by
  subst hx
  exact vp_in_nI h hN
theorem pk_cl {x : Int32} (n : Nat) (hx : x = nI n := by rfl) (h : n < 2 ^ 31 := by omega) : x.toNatClampNeg = n := by
  subst hx
  exact nI_clamp h
theorem pk_loop {σ : Type} (W : Nat → Nat → σ → Prop) (I : Nat → σ → Prop) (e i0 : Nat) (s : σ) (hi : i0 ≤ e) (h0 : I i0 s) (hx : ∀ n s, I e s → W (n + 1) e s)
    (hs : ∀ n i s, i < e → I i s → (∀ s', I (i + 1) s' → W n (i + 1) s') → W (n + 1) i s) : ∃ n, W n i0 s :=
  ⟨e + 1, loop_i W I e hx hs (e + 1) i0 s hi (by omega) h0⟩
theorem pk_least (P : Nat → Prop) (h : ∃ k, P k) : ∃ k, P k ∧ ∀ j, j < k → ¬ P j := by
  obtain ⟨k, hk⟩ := h
  induction k using Nat.strongRecOn with
  | ind k ih =>
    by_cases e : ∃ j, j < k ∧ P j
    · obtain ⟨j, hj, pj⟩ := e
      exact ih j hj pj
    · exact ⟨k, hk, fun j hj pj => e ⟨j, hj, pj⟩⟩
end
section
/-! counts of true cells; least closed sets -/
theorem ph_inj {a b : Nat} (ha : a < 1000) (hb : b < 1000) (h : nI a = nI b) : a = b := (nI_eq (by omega) (by omega)).mp h
def ph_ct (P : Nat → Int32) (a : Nat) : Nat → Nat
  | 0 => 0
  | n + 1 => ph_ct P a n + (if P (a + n) = 0 then 0 else 1)
theorem ph_ct_s0 {P : Nat → Int32} {a n : Nat} (h : P (a + n) = 0) : ph_ct P a (n + 1) = ph_ct P a n := by
  show ph_ct P a n + (if P (a + n) = 0 then 0 else 1) = _
  rw [if_pos h]
  rfl
theorem ph_ct_s1 {P : Nat → Int32} {a n : Nat} (h : ¬ P (a + n) = 0) : ph_ct P a (n + 1) = ph_ct P a n + 1 := by
  show ph_ct P a n + (if P (a + n) = 0 then 0 else 1) = _
  rw [if_neg h]
theorem ph_ct_le (P : Nat → Int32) (a n : Nat) : ph_ct P a n ≤ n := by
  induction n with
  | zero => exact Nat.le_refl 0
  | succ n ih =>
    by_cases h : P (a + n) = 0
    · rw [ph_ct_s0 h]; omega
    · rw [ph_ct_s1 h]; omega
theorem ph_ct_cg {P Q : Nat → Int32} {a n : Nat} (h : ∀ i, i < n → (P (a + i) = 0 ↔ Q (a + i) = 0)) : ph_ct P a n = ph_ct Q a n := by
  induction n with
  | zero => rfl
  | succ n ih =>
    have e := ih (fun i hi => h i (by omega))
    by_cases z : P (a + n) = 0
    · rw [ph_ct_s0 z, ph_ct_s0 ((h n (by omega)).mp z), e]
    · rw [ph_ct_s1 z, ph_ct_s1 (fun w => z ((h n (by omega)).mpr w)), e]
theorem ph_ct_set {P : Nat → Int32} {a s : Nat} {x : Int32} (hx : ¬ x = 0) (h0 : P s = 0) : ∀ n, a ≤ s → s < a + n → ph_ct (upd P s x) a n = ph_ct P a n + 1 := by
  intro n
  induction n with
  | zero => intro h1 h2; omega
  | succ n ih =>
    intro h1 h2
    by_cases e : s = a + n
    · have e1 : ph_ct (upd P s x) a n = ph_ct P a n := ph_ct_cg (fun i hi => by rw [pk_un (show a + i ≠ s by omega)])
      have e2 : ¬ upd P s x (a + n) = 0 := by rw [← e, pk_us]; exact hx
      have e3 : P (a + n) = 0 := by rw [← e]; exact h0
      rw [ph_ct_s1 e2, e1, ph_ct_s0 e3]
    · have e1 := ih h1 (by omega)
      have e2 : upd P s x (a + n) = P (a + n) := pk_un (fun z => e z.symm)
      by_cases z : P (a + n) = 0
      · rw [ph_ct_s0 (by rw [e2]; exact z), ph_ct_s0 z, e1]
      · rw [ph_ct_s1 (by rw [e2]; exact z), ph_ct_s1 z, e1]
theorem ph_ct_clr {Q : Nat → Int32} {b t : Nat} (h : ¬ Q t = 0) (n : Nat) (h1 : b ≤ t) (h2 : t < b + n) : ph_ct Q b n = ph_ct (upd Q t 0) b n + 1 := by
  have e := ph_ct_set (P := upd Q t 0) (a := b) (s := t) (x := Q t) h pk_us n h1 h2
  rw [← e]
  apply ph_ct_cg
  intro i _
  by_cases z : b + i = t
  · rw [z, pk_us]
  · rw [pk_un z, pk_un z]
theorem ph_ct_lt {P : Nat → Int32} {a n s : Nat} (h0 : P s = 0) (h1 : a ≤ s) (h2 : s < a + n) : ph_ct P a n < n := by
  have e := ph_ct_set (x := 1) (by decide) h0 n h1 h2
  have := ph_ct_le (upd P s 1) a n
  omega
theorem ph_ct_ex {P : Nat → Int32} {a n : Nat} (h : ph_ct P a n < n) : ∃ s, a ≤ s ∧ s < a + n ∧ P s = 0 := by
  induction n with
  | zero => omega
  | succ n ih =>
    by_cases z : P (a + n) = 0
    · exact ⟨a + n, by omega, by omega, z⟩
    · rw [ph_ct_s1 z] at h
      obtain ⟨s, h1, h2, h3⟩ := ih (by omega)
      exact ⟨s, h1, by omega, h3⟩
theorem ph_ct_inj {P : Nat → Int32} {a : Nat} (f : Nat → Nat) (b m : Nat) : ∀ (n : Nat) (Q : Nat → Int32), (∀ i, a ≤ i → i < a + n → ¬ P i = 0 → b ≤ f i ∧ f i < b + m ∧ ¬ Q (f i) = 0) → (∀ i j, a ≤ i → i < a + n → a ≤ j → j < a + n → ¬ P i = 0 → ¬ P j = 0 → f i = f j → i = j) → ph_ct P a n ≤ ph_ct Q b m := by
  intro n
  induction n with
  | zero => intro Q _ _; exact Nat.zero_le _
  | succ n ih =>
    intro Q h1 h2
    by_cases z : P (a + n) = 0
    · rw [ph_ct_s0 z]
      exact ih Q (fun i x y w => h1 i x (by omega) w) (fun i j x y x' y' w w' e => h2 i j x (by omega) x' (by omega) w w' e)
    · obtain ⟨g1, g2, g3⟩ := h1 (a + n) (by omega) (by omega) z
      rw [ph_ct_s1 z, ph_ct_clr g3 m g1 g2]
      have := ih (upd Q (f (a + n)) 0) (fun i x y w => by
        obtain ⟨k1, k2, k3⟩ := h1 i x (by omega) w
        refine ⟨k1, k2, ?_⟩
        rw [pk_un (fun e => by have := h2 i (a + n) x (by omega) (by omega) (by omega) w z e; omega)]
        exact k3) (fun i j x y x' y' w w' e => h2 i j x (by omega) x' (by omega) w w' e)
      omega
theorem ph_ct_bij {P Q : Nat → Int32} {a n b m : Nat} (f : Nat → Nat) (h1 : ∀ i, a ≤ i → i < a + n → ¬ P i = 0 → b ≤ f i ∧ f i < b + m ∧ ¬ Q (f i) = 0) (h2 : ∀ i j, a ≤ i → i < a + n → a ≤ j → j < a + n → ¬ P i = 0 → ¬ P j = 0 → f i = f j → i = j) (h3 : ∀ t, b ≤ t → t < b + m → ¬ Q t = 0 → ∃ i, a ≤ i ∧ i < a + n ∧ ¬ P i = 0 ∧ f i = t) : ph_ct P a n = ph_ct Q b m := by
  apply Nat.le_antisymm (ph_ct_inj f b m n Q h1 h2)
  have hg : ∀ t, ∃ i, b ≤ t → t < b + m → ¬ Q t = 0 → (a ≤ i ∧ i < a + n ∧ ¬ P i = 0 ∧ f i = t) := by
    intro t
    by_cases w : b ≤ t ∧ t < b + m ∧ ¬ Q t = 0
    · obtain ⟨i, hi⟩ := h3 t w.1 w.2.1 w.2.2
      exact ⟨i, fun _ _ _ => hi⟩
    · exact ⟨0, fun x y z => absurd ⟨x, y, z⟩ w⟩
  obtain ⟨g, hg⟩ := Classical.axiomOfChoice hg
  exact ph_ct_inj g a n m P (fun t x y z => ⟨(hg t x y z).1, (hg t x y z).2.1, (hg t x y z).2.2.1⟩) (fun t t' x y x' y' z z' e => (hg t x y z).2.2.2.symm.trans ((congrArg f e).trans (hg t' x' y' z').2.2.2))
/-- cell q holds the pair of slot t -/
def ph_ho (K V : Nat → Int32) (q t : Nat) : Prop := K q = 2 ∧ V q = nI t
/-- a set of slots that holds what its pairs hold -/
def ph_cl (K V : Nat → Int32) (S : Nat → Prop) : Prop := ∀ s b t, s < 60 → b < 2 → t < 60 → S s → ph_ho K V (21 + 2 * s + b) t → S t
/-- S is the least closed set over the roots R -/
def ph_lf (K V : Nat → Int32) (R S : Nat → Prop) : Prop := (∀ t, t < 60 → R t → S t) ∧ ph_cl K V S ∧ ∀ S' : Nat → Prop, (∀ t, t < 60 → R t → S' t) → ph_cl K V S' → ∀ t, t < 60 → S t → S' t
theorem ph_ho_inj {K V : Nat → Int32} {q t t' : Nat} (ht : t < 60) (ht' : t' < 60) (h : ph_ho K V q t) (h' : ph_ho K V q t') : t = t' := ph_inj (by omega) (by omega) (h.2.symm.trans h'.2)
/-- 20 - n against a count, as naturals -/
theorem ph_room {c n : Nat} (hc : c ≤ 60) (hn : n ≤ 60) : (nI c ≤ 20 - nI n) ↔ c + n ≤ 20 := by
  rw [show (20 : Int32) = nI 20 from rfl, Int32.le_iff_toInt_le, pk_sub_toInt (by omega) (by omega), nI_toInt (by omega)]
  omega
end
section
/-! the relation: X's cells against Y's places, through a renaming sg of the slots in use -/
def ph_own (q : Nat) : Nat := if q < 21 then q / 7 else (q - 21) / 40
def ph_yp (sg : Nat → Nat) (q : Nat) : Nat := if q < 21 then (if q % 7 < 4 then 4 * (q / 7) + q % 7 else 8 + 3 * (q / 7) + q % 7) else 21 + 2 * sg ((q - 21) / 2) + (q - 21) % 2
def ph_live (U : Nat → Int32) (N : Nat → Nat) (q : Nat) : Prop := (q < 21 ∧ q % 7 < 4 + N (q / 7)) ∨ (21 ≤ q ∧ ¬ U ((q - 21) / 2) = 0)
def ph_th (u : Nat → Int32) (N : Nat → Nat) (y : Nat) : Prop := y < 12 ∨ (12 ≤ y ∧ y < 21 ∧ (y - 12) % 3 < N ((y - 12) / 3)) ∨ (21 ≤ y ∧ ¬ u ((y - 21) / 2) = 0)
/-- the term (kx, vx) of X, held by process p, is the term (ky, cy) of Y -/
def ph_tm (sg : Nat → Nat) (U : Nat → Int32) (p : Nat) (kx vx ky cy : Int32) : Prop :=
  ky = kx ∧ ((kx = 0 ∧ vx = 0) ∨ (kx = 1 ∧ cy = vx) ∨ (kx = 3 ∧ cy = vx) ∨ (kx = 2 ∧ ∃ s, s < 60 ∧ s / 20 = p ∧ ¬ U s = 0 ∧ vx = nI s ∧ cy = nI (sg s)))
def ph_rel (sg : Nat → Nat) (N : Nat → Nat) (K V U M k c u m : Nat → Int32) : Prop :=
  (∀ p, p < 3 → N p ≤ 3 ∧ M p = nI (N p) ∧ m p = nI (N p)) ∧
  (∀ s, s < 60 → ¬ U s = 0 → sg s < 60 ∧ sg s / 20 = s / 20 ∧ ¬ u (sg s) = 0) ∧
  (∀ s s', s < 60 → s' < 60 → ¬ U s = 0 → ¬ U s' = 0 → sg s = sg s' → s = s') ∧
  (∀ t, t < 60 → ¬ u t = 0 → ∃ s, s < 60 ∧ ¬ U s = 0 ∧ sg s = t) ∧
  (∀ q, q < 141 → ph_live U N q → ph_tm sg U (ph_own q) (K q) (V q) (k (ph_yp sg q)) (c (ph_yp sg q))) ∧
  (∀ q, q < 141 → ¬ ph_live U N q → K q = 0 ∧ V q = 0)
theorem ph_q {q : Nat} (hq : q < 141) : (∃ p i, p < 3 ∧ i < 7 ∧ q = 7 * p + i) ∨ (∃ s b, s < 60 ∧ b < 2 ∧ q = 21 + 2 * s + b) := by
  by_cases h : q < 21
  · exact Or.inl ⟨q / 7, q % 7, by omega, by omega, by omega⟩
  · exact Or.inr ⟨(q - 21) / 2, (q - 21) % 2, by omega, by omega, by omega⟩
theorem ph_q3 {q : Nat} (hq : q < 141) : (∃ p r, p < 3 ∧ r < 4 ∧ q = 7 * p + r) ∨ (∃ p j, p < 3 ∧ j < 3 ∧ q = 7 * p + 4 + j) ∨ (∃ s b, s < 60 ∧ b < 2 ∧ q = 21 + 2 * s + b) := by
  rcases ph_q hq with ⟨p, i, hp, hi, rfl⟩ | h
  · by_cases h : i < 4
    · exact Or.inl ⟨p, i, hp, h, rfl⟩
    · exact Or.inr (Or.inl ⟨p, i - 4, hp, by omega, by omega⟩)
  · exact Or.inr (Or.inr h)
theorem ph_yp_reg {sg : Nat → Nat} {p r : Nat} (hp : p < 3) (hr : r < 4) : ph_yp sg (7 * p + r) = 4 * p + r := by
  unfold ph_yp
  rw [if_pos (by omega), if_pos (by omega)]
  omega
theorem ph_yp_mail {sg : Nat → Nat} {p j : Nat} (hp : p < 3) (hj : j < 3) : ph_yp sg (7 * p + 4 + j) = 12 + 3 * p + j := by
  unfold ph_yp
  rw [if_pos (by omega), if_neg (by omega)]
  omega
theorem ph_yp_slot {sg : Nat → Nat} {s b : Nat} (hb : b < 2) : ph_yp sg (21 + 2 * s + b) = 21 + 2 * sg s + b := by
  have e1 : (21 + 2 * s + b - 21) / 2 = s := by omega
  have e2 : (21 + 2 * s + b - 21) % 2 = b := by omega
  unfold ph_yp
  rw [if_neg (by omega), e1, e2]
theorem ph_live_reg {U : Nat → Int32} {N : Nat → Nat} {p r : Nat} (hp : p < 3) (hr : r < 4) : ph_live U N (7 * p + r) := Or.inl ⟨by omega, by omega⟩
theorem ph_live_mail {U : Nat → Int32} {N : Nat → Nat} {p j : Nat} (hp : p < 3) (hj : j < 3) : ph_live U N (7 * p + 4 + j) ↔ j < N p := by
  have e : (7 * p + 4 + j) / 7 = p := by omega
  unfold ph_live
  rw [e]
  constructor
  · intro h
    rcases h with ⟨_, h⟩ | ⟨h, _⟩ <;> omega
  · intro h
    exact Or.inl ⟨by omega, by omega⟩
theorem ph_live_slot {U : Nat → Int32} {N : Nat → Nat} {s b : Nat} (hb : b < 2) : ph_live U N (21 + 2 * s + b) ↔ ¬ U s = 0 := by
  have e : (21 + 2 * s + b - 21) / 2 = s := by omega
  unfold ph_live
  rw [e]
  constructor
  · intro h
    rcases h with ⟨h, _⟩ | ⟨_, h⟩
    · omega
    · exact h
  · intro h
    exact Or.inr ⟨by omega, h⟩
theorem ph_own_pl {p i : Nat} (hp : p < 3) (hi : i < 7) : ph_own (7 * p + i) = p := by
  unfold ph_own
  rw [if_pos (by omega)]
  omega
theorem ph_own_mail {p j : Nat} (hp : p < 3) (hj : j < 3) : ph_own (7 * p + 4 + j) = p := by
  unfold ph_own
  rw [if_pos (by omega)]
  omega
theorem ph_own_slot {s b : Nat} (hb : b < 2) : ph_own (21 + 2 * s + b) = s / 20 := by
  unfold ph_own
  rw [if_neg (by omega)]
  omega
theorem ph_yp_lt {sg : Nat → Nat} {p i : Nat} (hp : p < 3) (hi : i < 7) : ph_yp sg (7 * p + i) < 21 := by
  unfold ph_yp
  rw [if_pos (by omega)]
  split <;> omega
theorem ph_yp_inj {sg : Nat → Nat} {U : Nat → Int32} {N : Nat → Nat} (hi : ∀ s s', s < 60 → s' < 60 → ¬ U s = 0 → ¬ U s' = 0 → sg s = sg s' → s = s') {q q' : Nat} (hq : q < 141) (hq' : q' < 141) (hl : ph_live U N q) (hl' : ph_live U N q') (e : ph_yp sg q = ph_yp sg q') : q = q' := by
  rcases ph_q hq with ⟨p, i, hp, h7, rfl⟩ | ⟨s, b, hs, hb, rfl⟩
  · rcases ph_q hq' with ⟨p', i', hp', h7', rfl⟩ | ⟨s', b', hs', hb', rfl⟩
    · unfold ph_yp at e
      rw [if_pos (show 7 * p + i < 21 by omega), if_pos (show 7 * p' + i' < 21 by omega)] at e
      split at e <;> split at e <;> omega
    · rw [ph_yp_slot hb'] at e
      have := ph_yp_lt (sg := sg) hp h7
      omega
  · rcases ph_q hq' with ⟨p', i', hp', h7', rfl⟩ | ⟨s', b', hs', hb', rfl⟩
    · rw [ph_yp_slot hb] at e
      have := ph_yp_lt (sg := sg) hp' h7'
      omega
    · rw [ph_yp_slot hb, ph_yp_slot hb'] at e
      have := hi s s' hs hs' ((ph_live_slot hb).mp hl) ((ph_live_slot hb').mp hl') (by omega)
      omega
theorem ph_tm_mono {sg sg' : Nat → Nat} {U U' : Nat → Int32} {p : Nat} {kx vx ky cy : Int32} (h : ph_tm sg U p kx vx ky cy) (hm : ∀ s, s < 60 → kx = 2 → vx = nI s → s / 20 = p → ¬ U s = 0 → ¬ U' s = 0 ∧ sg' s = sg s) : ph_tm sg' U' p kx vx ky cy := by
  obtain ⟨e, h⟩ := h
  refine ⟨e, ?_⟩
  rcases h with h | h | h | ⟨h2, s, h60, hp, hu, hv, hc⟩
  · exact Or.inl h
  · exact Or.inr (Or.inl h)
  · exact Or.inr (Or.inr (Or.inl h))
  · obtain ⟨a, b⟩ := hm s h60 h2 hv hp hu
    exact Or.inr (Or.inr (Or.inr ⟨h2, s, h60, hp, a, hv, by rw [b]; exact hc⟩))
theorem ph_tm_x {sg : Nat → Nat} {U : Nat → Int32} {p : Nat} {kx vx ky cy : Int32} (h : ph_tm sg U p kx vx ky cy) (hk : kx = 2) : ky = 2 ∧ ∃ s, s < 60 ∧ s / 20 = p ∧ ¬ U s = 0 ∧ vx = nI s ∧ cy = nI (sg s) := by
  obtain ⟨e, h⟩ := h
  subst hk
  refine ⟨e, ?_⟩
  rcases h with ⟨h, _⟩ | ⟨h, _⟩ | ⟨h, _⟩ | ⟨_, h⟩
  · exact absurd h (by decide)
  · exact absurd h (by decide)
  · exact absurd h (by decide)
  · exact h
theorem ph_tm_nil {sg : Nat → Nat} {U : Nat → Int32} {p : Nat} {cy : Int32} : ph_tm sg U p 0 0 0 cy := ⟨rfl, Or.inl ⟨rfl, rfl⟩⟩
theorem ph_tm_num {sg : Nat → Nat} {U : Nat → Int32} {p : Nat} {v : Int32} : ph_tm sg U p 1 v 1 v := ⟨rfl, Or.inr (Or.inl ⟨rfl, rfl⟩)⟩
theorem ph_tm_blob {sg : Nat → Nat} {U : Nat → Int32} {p : Nat} {v : Int32} : ph_tm sg U p 3 v 3 v := ⟨rfl, Or.inr (Or.inr (Or.inl ⟨rfl, rfl⟩))⟩
theorem ph_tm_pair {sg : Nat → Nat} {U : Nat → Int32} {p s : Nat} (h : s < 60) (hp : s / 20 = p) (hu : ¬ U s = 0) : ph_tm sg U p 2 (nI s) 2 (nI (sg s)) := ⟨rfl, Or.inr (Or.inr (Or.inr ⟨rfl, s, h, hp, hu, rfl, rfl⟩))⟩
section
variable {sg N : Nat → Nat} {K V U M k c u m : Nat → Int32}
theorem ph_cell (h : ph_rel sg N K V U M k c u m) {s b : Nat} (hs : s < 60) (hb : b < 2) (hu : ¬ U s = 0) : ph_tm sg U (s / 20) (K (21 + 2 * s + b)) (V (21 + 2 * s + b)) (k (21 + 2 * sg s + b)) (c (21 + 2 * sg s + b)) := by
  have := h.2.2.2.2.1 (21 + 2 * s + b) (by omega) ((ph_live_slot hb).mpr hu)
  rw [ph_own_slot hb, ph_yp_slot hb] at this
  exact this
theorem ph_reg (h : ph_rel sg N K V U M k c u m) {p r : Nat} (hp : p < 3) (hr : r < 4) : ph_tm sg U p (K (7 * p + r)) (V (7 * p + r)) (k (4 * p + r)) (c (4 * p + r)) := by
  have := h.2.2.2.2.1 (7 * p + r) (by omega) (ph_live_reg hp hr)
  rw [ph_own_pl hp (by omega), ph_yp_reg hp hr] at this
  exact this
theorem ph_mail (h : ph_rel sg N K V U M k c u m) {p j : Nat} (hp : p < 3) (hj : j < N p) : ph_tm sg U p (K (7 * p + 4 + j)) (V (7 * p + 4 + j)) (k (12 + 3 * p + j)) (c (12 + 3 * p + j)) := by
  have h3 : j < 3 := by have := (h.1 p hp).1; omega
  have := h.2.2.2.2.1 (7 * p + 4 + j) (by omega) ((ph_live_mail hp h3).mpr hj)
  rw [ph_own_mail hp h3, ph_yp_mail hp h3] at this
  exact this
theorem ph_mail0 (h : ph_rel sg N K V U M k c u m) {p j : Nat} (hp : p < 3) (h3 : j < 3) (hj : ¬ j < N p) : K (7 * p + 4 + j) = 0 ∧ V (7 * p + 4 + j) = 0 :=
  h.2.2.2.2.2 (7 * p + 4 + j) (by omega) (fun z => hj ((ph_live_mail hp h3).mp z))
theorem ph_gx (h : ph_rel sg N K V U M k c u m) {q : Nat} (hq : q < 141) (hk : K q = 2) : ∃ s, s < 60 ∧ s / 20 = ph_own q ∧ ¬ U s = 0 ∧ V q = nI s := by
  by_cases hl : ph_live U N q
  · obtain ⟨_, s, a, b, d, e, _⟩ := ph_tm_x (h.2.2.2.2.1 q hq hl) hk
    exact ⟨s, a, b, d, e⟩
  · have := (h.2.2.2.2.2 q hq hl).1
    rw [hk] at this
    exact absurd this (by decide)
theorem ph_thq (h : ph_rel sg N K V U M k c u m) {q : Nat} (hq : q < 141) (hl : ph_live U N q) : ph_yp sg q < 141 ∧ ph_th u N (ph_yp sg q) := by
  rcases ph_q3 hq with ⟨p, r, hp, hr, rfl⟩ | ⟨p, j, hp, hj, rfl⟩ | ⟨s, b, hs, hb, rfl⟩
  · rw [ph_yp_reg hp hr]
    exact ⟨by omega, Or.inl (by omega)⟩
  · rw [ph_yp_mail hp hj]
    have hl' := (ph_live_mail hp hj).mp hl
    have e1 : (12 + 3 * p + j - 12) % 3 = j := by omega
    have e2 : (12 + 3 * p + j - 12) / 3 = p := by omega
    refine ⟨by omega, Or.inr (Or.inl ⟨by omega, by omega, ?_⟩)⟩
    rw [e1, e2]
    exact hl'
  · rw [ph_yp_slot hb]
    have hl' := (ph_live_slot hb).mp hl
    obtain ⟨a, _, d⟩ := h.2.1 s hs hl'
    have e : (21 + 2 * sg s + b - 21) / 2 = sg s := by omega
    refine ⟨by omega, Or.inr (Or.inr ⟨by omega, ?_⟩)⟩
    rw [e]
    exact d
theorem ph_thy (h : ph_rel sg N K V U M k c u m) {y : Nat} (hy : y < 141) (ht : ph_th u N y) : ∃ q, q < 141 ∧ ph_live U N q ∧ ph_yp sg q = y := by
  rcases ht with h1 | ⟨h1, h2, h3⟩ | ⟨h1, h2⟩
  · refine ⟨7 * (y / 4) + y % 4, by omega, ph_live_reg (by omega) (by omega), ?_⟩
    rw [ph_yp_reg (by omega) (by omega)]
    omega
  · refine ⟨7 * ((y - 12) / 3) + 4 + (y - 12) % 3, by omega, (ph_live_mail (by omega) (by omega)).mpr h3, ?_⟩
    rw [ph_yp_mail (by omega) (by omega)]
    omega
  · obtain ⟨s, hs, hu, e⟩ := h.2.2.2.1 ((y - 21) / 2) (by omega) h2
    refine ⟨21 + 2 * s + (y - 21) % 2, by omega, (ph_live_slot (by omega)).mpr hu, ?_⟩
    rw [ph_yp_slot (by omega), e]
    omega
theorem ph_gy (h : ph_rel sg N K V U M k c u m) {y : Nat} (hy : y < 141) (ht : ph_th u N y) (hk : k y = 2) : ∃ t, t < 60 ∧ c y = nI t ∧ ¬ u t = 0 := by
  obtain ⟨q, hq, hl, rfl⟩ := ph_thy h hy ht
  have t := h.2.2.2.2.1 q hq hl
  obtain ⟨_, s, a, b, d, e, f⟩ := ph_tm_x t (t.1.symm.trans hk)
  obtain ⟨g1, _, g3⟩ := h.2.1 s a d
  exact ⟨sg s, g1, f, g3⟩
theorem ph_gys (h : ph_rel sg N K V U M k c u m) {t b : Nat} (ht : t < 60) (hb : b < 2) (hu : ¬ u t = 0) (hk : k (21 + 2 * t + b) = 2) : ∃ t', t' < 60 ∧ c (21 + 2 * t + b) = nI t' ∧ ¬ u t' = 0 := by
  have e : (21 + 2 * t + b - 21) / 2 = t := by omega
  exact ph_gy h (by omega) (Or.inr (Or.inr ⟨by omega, by rw [e]; exact hu⟩)) hk
theorem ph_blob (h : ph_rel sg N K V U M k c u m) (x : Int32) (Ex Ey : Nat → Prop) (hE : ∀ q, q < 141 → ph_live U N q → (Ex q ↔ Ey (ph_yp sg q))) : (∃ q, q < 141 ∧ Ex q ∧ K q = 3 ∧ V q = x) ↔ (∃ y, y < 141 ∧ Ey y ∧ k y = 3 ∧ c y = x ∧ ph_th u N y) := by
  constructor
  · intro ⟨q, hq, he, hk, hv⟩
    by_cases hl : ph_live U N q
    · obtain ⟨a, b⟩ := ph_thq h hq hl
      obtain ⟨t1, t2⟩ := h.2.2.2.2.1 q hq hl
      refine ⟨ph_yp sg q, a, (hE q hq hl).mp he, t1.trans hk, ?_, b⟩
      rw [hk, hv] at t2
      rcases t2 with ⟨z, _⟩ | ⟨z, _⟩ | ⟨_, z⟩ | ⟨z, _⟩
      · exact absurd z (by decide)
      · exact absurd z (by decide)
      · exact z
      · exact absurd z (by decide)
    · have := (h.2.2.2.2.2 q hq hl).1
      rw [hk] at this
      exact absurd this (by decide)
  · intro ⟨y, hy, he, hk, hc, ht⟩
    obtain ⟨q, hq, hl, rfl⟩ := ph_thy h hy ht
    obtain ⟨t1, t2⟩ := h.2.2.2.2.1 q hq hl
    have hk' : K q = 3 := t1.symm.trans hk
    refine ⟨q, hq, (hE q hq hl).mpr he, hk', ?_⟩
    rw [hk', hc] at t2
    rcases t2 with ⟨z, _⟩ | ⟨z, _⟩ | ⟨_, z⟩ | ⟨z, _⟩
    · exact absurd z (by decide)
    · exact absurd z (by decide)
    · exact z.symm
    · exact absurd z (by decide)
theorem ph_set (h : ph_rel sg N K V U M k c u m) {q y : Nat} (hq : q < 141) (hl : ph_live U N q) (hy : ph_yp sg q = y) {kx vx ky cy : Int32} (ht : ph_tm sg U (ph_own q) kx vx ky cy) : ph_rel sg N (upd K q kx) (upd V q vx) U M (upd k y ky) (upd c y cy) u m := by
  obtain ⟨h1, h2, h3, h4, h5, h6⟩ := h
  refine ⟨h1, h2, h3, h4, ?_, ?_⟩
  · intro q' hq' hl'
    by_cases e : q' = q
    · subst e
      rw [hy, pk_us, pk_us, pk_us, pk_us]
      exact ht
    · have e' : ph_yp sg q' ≠ y := fun z => e (ph_yp_inj h3 hq' hq hl' hl (z.trans hy.symm))
      rw [pk_un e, pk_un e, pk_un e', pk_un e']
      exact h5 q' hq' hl'
  · intro q' hq' hl'
    have e : q' ≠ q := fun z => hl' (z ▸ hl)
    rw [pk_un e, pk_un e]
    exact h6 q' hq' hl'
theorem ph_setr (h : ph_rel sg N K V U M k c u m) {p r : Nat} (hp : p < 3) (hr : r < 4) {kx vx ky cy : Int32} (ht : ph_tm sg U p kx vx ky cy) : ph_rel sg N (upd K (7 * p + r) kx) (upd V (7 * p + r) vx) U M (upd k (4 * p + r) ky) (upd c (4 * p + r) cy) u m :=
  ph_set h (by omega) (ph_live_reg hp hr) (ph_yp_reg hp hr) (by rw [ph_own_pl hp (by omega)]; exact ht)
/-- the sets that both sides find are one set -/
theorem ph_corr (h : ph_rel sg N K V U M k c u m) {RX RY SX' SY' : Nat → Prop} (hX : ph_lf K V RX SX') (hY : ph_lf k c RY SY') (r1 : ∀ s, s < 60 → RX s → ¬ U s = 0 ∧ RY (sg s)) (r2 : ∀ t, t < 60 → RY t → ∃ s, s < 60 ∧ RX s ∧ sg s = t) : (∀ s, s < 60 → SX' s → ¬ U s = 0 ∧ SY' (sg s)) ∧ (∀ t, t < 60 → SY' t → ∃ s, s < 60 ∧ ¬ U s = 0 ∧ SX' s ∧ sg s = t) := by
  constructor
  · apply hX.2.2 (fun s => ¬ U s = 0 ∧ SY' (sg s))
    · intro s hs hr
      obtain ⟨a, b⟩ := r1 s hs hr
      exact ⟨a, hY.1 _ (h.2.1 s hs a).1 b⟩
    · intro s b t hs hb ht hS ho
      obtain ⟨a1, a2⟩ := hS
      obtain ⟨e1, s', hs', _, hu', hv', hc'⟩ := ph_tm_x (ph_cell h hs hb a1) ho.1
      have : s' = t := ph_inj (by omega) (by omega) (hv'.symm.trans ho.2)
      subst this
      exact ⟨hu', hY.2.1 (sg s) b (sg s') (h.2.1 s hs a1).1 hb (h.2.1 s' hs' hu').1 a2 ⟨e1, hc'⟩⟩
  · apply hY.2.2 (fun t => ∃ s, s < 60 ∧ ¬ U s = 0 ∧ SX' s ∧ sg s = t)
    · intro t ht hr
      obtain ⟨s, hs, hr', e⟩ := r2 t ht hr
      exact ⟨s, hs, (r1 s hs hr').1, hX.1 s hs hr', e⟩
    · intro t b t' ht hb ht' hS ho
      obtain ⟨s, hs, hu, hx, rfl⟩ := hS
      have tm := ph_cell h hs hb hu
      have k2 : K (21 + 2 * s + b) = 2 := tm.1.symm.trans ho.1
      obtain ⟨_, s', hs', _, hu', hv', hc'⟩ := ph_tm_x tm k2
      have : sg s' = t' := ph_inj (by have := (h.2.1 s' hs' hu').1; omega) (by omega) (hc'.symm.trans ho.2)
      exact ⟨s', hs', hu', hX.2.1 s b s' hs hb hs' hx ⟨k2, hv'⟩, this⟩
/-- what is found from cells of process p lies in p's heap -/
theorem ph_inp (h : ph_rel sg N K V U M k c u m) {p : Nat} {R S : Nat → Prop} (hX : ph_lf K V R S) (hr : ∀ s, s < 60 → R s → s / 20 = p ∧ ¬ U s = 0) : ∀ s, s < 60 → S s → s / 20 = p ∧ ¬ U s = 0 := by
  apply hX.2.2 (fun s => s / 20 = p ∧ ¬ U s = 0) hr
  intro s b t hs hb ht hS ho
  obtain ⟨_, s', _, e, hu', hv', _⟩ := ph_tm_x (ph_cell h hs hb hS.2) ho.1
  have : s' = t := ph_inj (by omega) (by omega) (hv'.symm.trans ho.2)
  subst this
  exact ⟨e.trans hS.1, hu'⟩
/-- pairs of process p outside of S are removed -/
theorem ph_clean (h : ph_rel sg N K V U M k c u m) {p : Nat} {S T : Nat → Prop} {K' V' U' u' : Nat → Int32} (hST : ∀ s, s < 60 → ¬ U s = 0 → s / 20 = p → (S s ↔ T (sg s))) (hcl : ph_cl K V S) (hro : ∀ i s, i < 7 → s < 60 → ph_ho K V (7 * p + i) s → S s) (hU : ∀ s, s < 60 → (¬ U' s = 0 ↔ ¬ U s = 0 ∧ (s / 20 = p → S s))) (hu : ∀ t, t < 60 → (¬ u' t = 0 ↔ ¬ u t = 0 ∧ (t / 20 = p → T t)))
    (hK : ∀ q, q < 141 → ph_live U' N q → K' q = K q ∧ V' q = V q) (hK0 : ∀ q, q < 141 → ¬ ph_live U' N q → K' q = 0 ∧ V' q = 0) : ph_rel sg N K' V' U' M k c u' m := by
  have hr := h
  obtain ⟨h1, h2, h3, h4, h5, h6⟩ := h
  have hUU : ∀ s, s < 60 → ¬ U' s = 0 → ¬ U s = 0 := fun s hs z => ((hU s hs).mp z).1
  refine ⟨h1, ?_, ?_, ?_, ?_, hK0⟩
  · intro s hs hz
    obtain ⟨a, b⟩ := (hU s hs).mp hz
    obtain ⟨d, e, f⟩ := h2 s hs a
    exact ⟨d, e, (hu _ d).mpr ⟨f, fun z => (hST s hs a (e.symm.trans z)).mp (b (e.symm.trans z))⟩⟩
  · intro s s' hs hs' hz hz' e
    exact h3 s s' hs hs' (hUU s hs hz) (hUU s' hs' hz') e
  · intro t ht hz
    obtain ⟨a, b⟩ := (hu t ht).mp hz
    obtain ⟨s, hs, hus, rfl⟩ := h4 t ht a
    obtain ⟨d, e, f⟩ := h2 s hs hus
    exact ⟨s, hs, (hU s hs).mpr ⟨hus, fun z => (hST s hs hus z).mpr (b (e.trans z))⟩, rfl⟩
  · intro q hq hl
    obtain ⟨e1, e2⟩ := hK q hq hl
    rw [e1, e2]
    have hl0 : ph_live U N q := by
      rcases hl with hl | ⟨a, b⟩
      · exact Or.inl hl
      · exact Or.inr ⟨a, hUU _ (by omega) b⟩
    refine ph_tm_mono (h5 q hq hl0) (fun s hs k2 hv hp' hus => ⟨(hU s hs).mpr ⟨hus, fun z => ?_⟩, rfl⟩)
    rcases ph_q hq with ⟨p', i, hp3, h7, rfl⟩ | ⟨s0, b, hs0, hb, rfl⟩
    · rw [ph_own_pl hp3 h7] at hp'
      have : p' = p := hp'.symm.trans z
      subst this
      exact hro i s h7 hs ⟨k2, hv⟩
    · rw [ph_own_slot hb] at hp'
      obtain ⟨_, g⟩ := (hU s0 hs0).mp ((ph_live_slot hb).mp hl)
      exact hcl s0 b s hs0 hb hs (g (hp'.symm.trans z)) ⟨k2, hv⟩
/-- new pairs -/
theorem ph_ext (h : ph_rel sg N K V U M k c u m) (A : Nat → Prop) {sg' : Nat → Nat} {K' V' U' k' c' u' : Nat → Int32} (hA : ∀ s, s < 60 → A s → U s = 0) (hU : ∀ s, s < 60 → (¬ U' s = 0 ↔ ¬ U s = 0 ∨ A s)) (hu : ∀ t, t < 60 → (¬ u' t = 0 ↔ ¬ u t = 0 ∨ ∃ s, s < 60 ∧ A s ∧ sg' s = t)) (hB : ∀ s, s < 60 → A s → sg' s < 60 ∧ sg' s / 20 = s / 20 ∧ u (sg' s) = 0) (hi : ∀ s s', s < 60 → s' < 60 → A s → A s' → sg' s = sg' s' → s = s') (hs : ∀ s, s < 60 → ¬ U s = 0 → sg' s = sg s)
    (hX : ∀ q, q < 141 → (∀ s b, s < 60 → b < 2 → A s → q ≠ 21 + 2 * s + b) → K' q = K q ∧ V' q = V q) (hY : ∀ y, y < 141 → (∀ s b, s < 60 → b < 2 → A s → y ≠ 21 + 2 * sg' s + b) → k' y = k y ∧ c' y = c y) (hN : ∀ s b, s < 60 → b < 2 → A s → ph_tm sg' U' (s / 20) (K' (21 + 2 * s + b)) (V' (21 + 2 * s + b)) (k' (21 + 2 * sg' s + b)) (c' (21 + 2 * sg' s + b))) : ph_rel sg' N K' V' U' M k' c' u' m := by
  have hr := h
  obtain ⟨h1, h2, h3, h4, h5, h6⟩ := h
  refine ⟨h1, ?_, ?_, ?_, ?_, ?_⟩
  · intro s h60 hz
    rcases (hU s h60).mp hz with a | a
    · rw [hs s h60 a]
      obtain ⟨d, e, f⟩ := h2 s h60 a
      exact ⟨d, e, (hu _ d).mpr (Or.inl f)⟩
    · obtain ⟨d, e, f⟩ := hB s h60 a
      exact ⟨d, e, (hu _ d).mpr (Or.inr ⟨s, h60, a, rfl⟩)⟩
  · intro s s' h60 h60' hz hz' e
    rcases (hU s h60).mp hz with a | a
    · rcases (hU s' h60').mp hz' with a' | a'
      · rw [hs s h60 a, hs s' h60' a'] at e
        exact h3 s s' h60 h60' a a' e
      · rw [hs s h60 a] at e
        have x := (hB s' h60' a').2.2
        rw [← e] at x
        exact absurd x (h2 s h60 a).2.2
    · rcases (hU s' h60').mp hz' with a' | a'
      · rw [hs s' h60' a'] at e
        have x := (hB s h60 a).2.2
        rw [e] at x
        exact absurd x (h2 s' h60' a').2.2
      · exact hi s s' h60 h60' a a' e
  · intro t ht hz
    rcases (hu t ht).mp hz with a | ⟨s, h60, a, e⟩
    · obtain ⟨s, h60, hus, rfl⟩ := h4 t ht a
      exact ⟨s, h60, (hU s h60).mpr (Or.inl hus), hs s h60 hus⟩
    · exact ⟨s, h60, (hU s h60).mpr (Or.inr a), e⟩
  · intro q hq hl
    have old : ∀ (hl0 : ph_live U N q) (ha : ∀ s b, s < 60 → b < 2 → A s → q ≠ 21 + 2 * s + b) (hy : ph_yp sg' q = ph_yp sg q) (hya : ∀ s b, s < 60 → b < 2 → A s → ph_yp sg q ≠ 21 + 2 * sg' s + b), ph_tm sg' U' (ph_own q) (K' q) (V' q) (k' (ph_yp sg' q)) (c' (ph_yp sg' q)) := by
      intro hl0 ha hy hya
      obtain ⟨e1, e2⟩ := hX q hq ha
      obtain ⟨e3, e4⟩ := hY (ph_yp sg q) (ph_thq hr hq hl0).1 hya
      rw [hy, e1, e2, e3, e4]
      exact ph_tm_mono (h5 q hq hl0) (fun s h60 _ _ _ hus => ⟨(hU s h60).mpr (Or.inl hus), hs s h60 hus⟩)
    rcases ph_q hq with ⟨p, i, hp, h7, rfl⟩ | ⟨s0, b0, hs0, hb0, rfl⟩
    · have hl0 : ph_live U N (7 * p + i) := by
        rcases hl with hl | ⟨a, _⟩
        · exact Or.inl hl
        · omega
      refine old hl0 (fun s b _ _ _ => by omega) ?_ (fun s b _ _ _ => ?_)
      · unfold ph_yp
        rw [if_pos (show 7 * p + i < 21 by omega), if_pos (show 7 * p + i < 21 by omega)]
      · have := ph_yp_lt (sg := sg) hp h7
        omega
    · rcases (hU s0 hs0).mp ((ph_live_slot hb0).mp hl) with a | a
      · refine old ((ph_live_slot hb0).mpr a) (fun s b h60 hb hAs z => ?_) ?_ (fun s b h60 hb hAs => ?_)
        · have : s = s0 := by omega
          subst this
          exact a (hA s h60 hAs)
        · rw [ph_yp_slot hb0, ph_yp_slot hb0, hs s0 hs0 a]
        · rw [ph_yp_slot hb0]
          intro z
          have e : sg' s = sg s0 := by omega
          have x := (hB s h60 hAs).2.2
          rw [e] at x
          exact (h2 s0 hs0 a).2.2 x
      · rw [ph_own_slot hb0, ph_yp_slot hb0]
        exact hN s0 b0 hs0 hb0 a
  · intro q hq hl
    have hl0 : ¬ ph_live U N q := by
      intro z
      rcases z with z | ⟨a, b⟩
      · exact hl (Or.inl z)
      · exact hl (Or.inr ⟨a, (hU _ (by omega)).mpr (Or.inl b)⟩)
    obtain ⟨e1, e2⟩ := hX q hq (fun s b h60 hb hAs z => hl (by rw [z]; exact (ph_live_slot hb).mpr ((hU s h60).mpr (Or.inr hAs))))
    rw [e1, e2]
    exact h6 q hq hl0
end
end
section
/-! what the methods do to the relation -/
def ph_nu (N : Nat → Nat) (p n : Nat) : Nat → Nat := fun j => if j = p then n else N j
theorem ph_nus {N : Nat → Nat} {p n : Nat} : ph_nu N p n p = n := if_pos rfl
theorem ph_nun {N : Nat → Nat} {p n j : Nat} (h : j ≠ p) : ph_nu N p n j = N j := if_neg h
section
variable {sg N : Nat → Nat} {K V U M k c u m : Nat → Int32}
theorem ph_mk (h1 : ∀ p, p < 3 → N p ≤ 3 ∧ M p = nI (N p) ∧ m p = nI (N p)) (h2 : ∀ s, s < 60 → ¬ U s = 0 → sg s < 60 ∧ sg s / 20 = s / 20 ∧ ¬ u (sg s) = 0) (h3 : ∀ s s', s < 60 → s' < 60 → ¬ U s = 0 → ¬ U s' = 0 → sg s = sg s' → s = s') (h4 : ∀ t, t < 60 → ¬ u t = 0 → ∃ s, s < 60 ∧ ¬ U s = 0 ∧ sg s = t)
    (hr : ∀ p r, p < 3 → r < 4 → ph_tm sg U p (K (7 * p + r)) (V (7 * p + r)) (k (4 * p + r)) (c (4 * p + r))) (hm : ∀ p j, p < 3 → j < 3 → j < N p → ph_tm sg U p (K (7 * p + 4 + j)) (V (7 * p + 4 + j)) (k (12 + 3 * p + j)) (c (12 + 3 * p + j))) (hm0 : ∀ p j, p < 3 → j < 3 → ¬ j < N p → K (7 * p + 4 + j) = 0 ∧ V (7 * p + 4 + j) = 0)
    (hs : ∀ s b, s < 60 → b < 2 → ¬ U s = 0 → ph_tm sg U (s / 20) (K (21 + 2 * s + b)) (V (21 + 2 * s + b)) (k (21 + 2 * sg s + b)) (c (21 + 2 * sg s + b))) (hs0 : ∀ s b, s < 60 → b < 2 → U s = 0 → K (21 + 2 * s + b) = 0 ∧ V (21 + 2 * s + b) = 0) : ph_rel sg N K V U M k c u m := by
  refine ⟨h1, h2, h3, h4, ?_, ?_⟩
  · intro q hq hl
    rcases ph_q3 hq with ⟨p, r, hp, h7, rfl⟩ | ⟨p, j, hp, hj, rfl⟩ | ⟨s, b, h60, hb, rfl⟩
    · rw [ph_own_pl hp (by omega), ph_yp_reg hp h7]
      exact hr p r hp h7
    · rw [ph_own_mail hp hj, ph_yp_mail hp hj]
      exact hm p j hp hj ((ph_live_mail hp hj).mp hl)
    · rw [ph_own_slot hb, ph_yp_slot hb]
      exact hs s b h60 hb ((ph_live_slot hb).mp hl)
  · intro q hq hl
    rcases ph_q3 hq with ⟨p, r, hp, h7, rfl⟩ | ⟨p, j, hp, hj, rfl⟩ | ⟨s, b, h60, hb, rfl⟩
    · exact absurd (ph_live_reg hp h7) hl
    · exact hm0 p j hp hj (fun z => hl ((ph_live_mail hp hj).mpr z))
    · exact hs0 s b h60 hb (Classical.byContradiction (fun z => hl ((ph_live_slot hb).mpr z)))
theorem ph_cell0 (h : ph_rel sg N K V U M k c u m) {s b : Nat} (hs : s < 60) (hb : b < 2) (hu : U s = 0) : K (21 + 2 * s + b) = 0 ∧ V (21 + 2 * s + b) = 0 :=
  h.2.2.2.2.2 (21 + 2 * s + b) (by omega) (fun z => (ph_live_slot hb).mp z hu)
theorem ph_cnt (h : ph_rel sg N K V U M k c u m) {p : Nat} (hp : p < 3) : ph_ct U (20 * p) 20 = ph_ct u (20 * p) 20 := by
  apply ph_ct_bij sg
  · intro i h1 h2 hz
    obtain ⟨a, b, d⟩ := h.2.1 i (by omega) hz
    exact ⟨by omega, by omega, d⟩
  · intro i j h1 h2 h3 h4 hz hz' e
    exact h.2.2.1 i j (by omega) (by omega) hz hz' e
  · intro t h1 h2 hz
    obtain ⟨s, hs, hu, e⟩ := h.2.2.2.1 t (by omega) hz
    obtain ⟨a, b, d⟩ := h.2.1 s hs hu
    exact ⟨s, by omega, by omega, hu, e⟩
theorem ph_fnd (h : ph_rel sg N K V U M k c u m) {P Q : Nat → Int32} (h1 : ∀ s, s < 60 → ¬ P s = 0 → ¬ U s = 0 ∧ ¬ Q (sg s) = 0) (h2 : ∀ t, t < 60 → ¬ Q t = 0 → ∃ s, s < 60 ∧ ¬ U s = 0 ∧ ¬ P s = 0 ∧ sg s = t) : ph_ct P 0 60 = ph_ct Q 0 60 := by
  apply ph_ct_bij sg
  · intro i _ hi hz
    obtain ⟨a, b⟩ := h1 i (by omega) hz
    have := (h.2.1 i (by omega) a).1
    exact ⟨by omega, by omega, b⟩
  · intro i j _ hi _ hj hz hz' e
    exact h.2.2.1 i j (by omega) (by omega) (h1 i (by omega) hz).1 (h1 j (by omega) hz').1 e
  · intro t _ ht hz
    obtain ⟨s, hs, _, hp, e⟩ := h2 t (by omega) hz
    exact ⟨s, by omega, by omega, hp, e⟩
theorem ph_push (h : ph_rel sg N K V U M k c u m) {p : Nat} (hp : p < 3) (hn : N p < 3) {kx vx ky cy : Int32} (ht : ph_tm sg U p kx vx ky cy) : ph_rel sg (ph_nu N p (N p + 1)) (upd K (7 * p + 4 + N p) kx) (upd V (7 * p + 4 + N p) vx) U (upd M p (nI (N p + 1))) (upd k (12 + 3 * p + N p) ky) (upd c (12 + 3 * p + N p) cy) u (upd m p (nI (N p + 1))) := by
  refine ph_mk ?_ h.2.1 h.2.2.1 h.2.2.2.1 ?_ ?_ ?_ ?_ ?_
  · intro p' hp'
    by_cases e : p' = p
    · subst e
      rw [ph_nus, pk_us, pk_us]
      exact ⟨by omega, rfl, rfl⟩
    · rw [ph_nun e, pk_un e, pk_un e]
      exact h.1 p' hp'
  · intro p' r hp' hr
    rw [pk_un (by omega), pk_un (by omega), pk_un (by omega), pk_un (by omega)]
    exact ph_reg h hp' hr
  · intro p' j hp' hj hl
    by_cases e : p' = p
    · subst e
      rw [ph_nus] at hl
      by_cases e2 : j = N p'
      · subst e2
        rw [pk_us, pk_us, pk_us, pk_us]
        exact ht
      · rw [pk_un (by omega), pk_un (by omega), pk_un (by omega), pk_un (by omega)]
        exact ph_mail h hp' (by omega)
    · rw [ph_nun e] at hl
      rw [pk_un (by omega), pk_un (by omega), pk_un (by omega), pk_un (by omega)]
      exact ph_mail h hp' hl
  · intro p' j hp' hj hl
    have e : 7 * p' + 4 + j ≠ 7 * p + 4 + N p := by
      intro z
      have e : p' = p := by omega
      subst e
      rw [ph_nus] at hl
      omega
    rw [pk_un e, pk_un e]
    refine ph_mail0 h hp' hj (fun z => hl ?_)
    by_cases e : p' = p
    · subst e
      rw [ph_nus]
      omega
    · rw [ph_nun e]
      exact z
  · intro s b hs hb hu
    rw [pk_un (by omega), pk_un (by omega), pk_un (by omega), pk_un (by omega)]
    exact ph_cell h hs hb hu
  · intro s b hs hb hu
    rw [pk_un (by omega), pk_un (by omega)]
    exact ph_cell0 h hs hb hu
theorem ph_shift (h : ph_rel sg N K V U M k c u m) {p : Nat} (hp : p < 3) (hn : 0 < N p) {K' V' k' c' : Nat → Int32} (a1 : ∀ j, j < 2 → K' (7 * p + 4 + j) = K (7 * p + 4 + (j + 1)) ∧ V' (7 * p + 4 + j) = V (7 * p + 4 + (j + 1))) (a2 : K' (7 * p + 4 + 2) = 0 ∧ V' (7 * p + 4 + 2) = 0) (a3 : ∀ q, q < 141 → (∀ j, j < 3 → q ≠ 7 * p + 4 + j) → K' q = K q ∧ V' q = V q) (b1 : ∀ j, j < 2 → k' (12 + 3 * p + j) = k (12 + 3 * p + (j + 1)) ∧ c' (12 + 3 * p + j) = c (12 + 3 * p + (j + 1))) (b3 : ∀ y, y < 141 → (∀ j, j < 3 → y ≠ 12 + 3 * p + j) → k' y = k y ∧ c' y = c y) :
    ph_rel sg (ph_nu N p (N p - 1)) K' V' U (upd M p (nI (N p - 1))) k' c' u (upd m p (nI (N p - 1))) := by
  have h13 := (h.1 p hp).1
  refine ph_mk ?_ h.2.1 h.2.2.1 h.2.2.2.1 ?_ ?_ ?_ ?_ ?_
  · intro p' hp'
    by_cases e : p' = p
    · subst e
      rw [ph_nus, pk_us, pk_us]
      exact ⟨by omega, rfl, rfl⟩
    · rw [ph_nun e, pk_un e, pk_un e]
      exact h.1 p' hp'
  · intro p' r hp' hr
    obtain ⟨e1, e2⟩ := a3 (7 * p' + r) (by omega) (fun j hj => by omega)
    obtain ⟨e3, e4⟩ := b3 (4 * p' + r) (by omega) (fun j hj => by omega)
    rw [e1, e2, e3, e4]
    exact ph_reg h hp' hr
  · intro p' j hp' hj hl
    by_cases e : p' = p
    · subst e
      rw [ph_nus] at hl
      obtain ⟨e1, e2⟩ := a1 j (by omega)
      obtain ⟨e3, e4⟩ := b1 j (by omega)
      rw [e1, e2, e3, e4]
      exact ph_mail h hp' (by omega)
    · rw [ph_nun e] at hl
      obtain ⟨e1, e2⟩ := a3 (7 * p' + 4 + j) (by omega) (fun j hj => by omega)
      obtain ⟨e3, e4⟩ := b3 (12 + 3 * p' + j) (by omega) (fun j hj => by omega)
      rw [e1, e2, e3, e4]
      exact ph_mail h hp' hl
  · intro p' j hp' hj hl
    by_cases e : p' = p
    · subst e
      rw [ph_nus] at hl
      by_cases e2 : j = 2
      · subst e2
        exact a2
      · obtain ⟨e1, e2⟩ := a1 j (by omega)
        rw [e1, e2]
        exact ph_mail0 h hp' (by omega) (by omega)
    · rw [ph_nun e] at hl
      obtain ⟨e1, e2⟩ := a3 (7 * p' + 4 + j) (by omega) (fun j hj => by omega)
      rw [e1, e2]
      exact ph_mail0 h hp' hj hl
  · intro s b hs hb hu
    have := (h.2.1 s hs hu).1
    obtain ⟨e1, e2⟩ := a3 (21 + 2 * s + b) (by omega) (fun j hj => by omega)
    obtain ⟨e3, e4⟩ := b3 (21 + 2 * sg s + b) (by omega) (fun j hj => by omega)
    rw [e1, e2, e3, e4]
    exact ph_cell h hs hb hu
  · intro s b hs hb hu
    obtain ⟨e1, e2⟩ := a3 (21 + 2 * s + b) (by omega) (fun j hj => by omega)
    rw [e1, e2]
    exact ph_cell0 h hs hb hu
theorem ph_wipe (h : ph_rel sg N K V U M k c u m) {p : Nat} (hp : p < 3) {K' V' k' c' : Nat → Int32} (a1 : ∀ i, i < 7 → K' (7 * p + i) = 0 ∧ V' (7 * p + i) = 0) (a3 : ∀ q, q < 141 → (∀ i, i < 7 → q ≠ 7 * p + i) → K' q = K q ∧ V' q = V q) (b1 : ∀ r, r < 4 → k' (4 * p + r) = 0) (b3 : ∀ y, y < 141 → (∀ r, r < 4 → y ≠ 4 * p + r) → k' y = k y ∧ c' y = c y) :
    ph_rel sg (ph_nu N p 0) K' V' U (upd M p 0) k' c' u (upd m p 0) := by
  refine ph_mk ?_ h.2.1 h.2.2.1 h.2.2.2.1 ?_ ?_ ?_ ?_ ?_
  · intro p' hp'
    by_cases e : p' = p
    · subst e
      rw [ph_nus, pk_us, pk_us]
      exact ⟨by omega, rfl, rfl⟩
    · rw [ph_nun e, pk_un e, pk_un e]
      exact h.1 p' hp'
  · intro p' r hp' hr
    by_cases e : p' = p
    · subst e
      obtain ⟨e1, e2⟩ := a1 r (by omega)
      rw [e1, e2, b1 r hr]
      exact ph_tm_nil
    · obtain ⟨e1, e2⟩ := a3 (7 * p' + r) (by omega) (fun j hj => by omega)
      obtain ⟨e3, e4⟩ := b3 (4 * p' + r) (by omega) (fun j hj => by omega)
      rw [e1, e2, e3, e4]
      exact ph_reg h hp' hr
  · intro p' j hp' hj hl
    by_cases e : p' = p
    · subst e
      rw [ph_nus] at hl
      omega
    · rw [ph_nun e] at hl
      obtain ⟨e1, e2⟩ := a3 (7 * p' + 4 + j) (by omega) (fun j hj => by omega)
      obtain ⟨e3, e4⟩ := b3 (12 + 3 * p' + j) (by omega) (fun j hj => by omega)
      rw [e1, e2, e3, e4]
      exact ph_mail h hp' hl
  · intro p' j hp' hj hl
    by_cases e : p' = p
    · subst e
      have := a1 (4 + j) (by omega)
      rw [← Nat.add_assoc] at this
      exact this
    · rw [ph_nun e] at hl
      obtain ⟨e1, e2⟩ := a3 (7 * p' + 4 + j) (by omega) (fun j hj => by omega)
      rw [e1, e2]
      exact ph_mail0 h hp' hj hl
  · intro s b hs hb hu
    have := (h.2.1 s hs hu).1
    obtain ⟨e1, e2⟩ := a3 (21 + 2 * s + b) (by omega) (fun j hj => by omega)
    obtain ⟨e3, e4⟩ := b3 (21 + 2 * sg s + b) (by omega) (fun j hj => by omega)
    rw [e1, e2, e3, e4]
    exact ph_cell h hs hb hu
  · intro s b hs hb hu
    obtain ⟨e1, e2⟩ := a3 (21 + 2 * s + b) (by omega) (fun j hj => by omega)
    rw [e1, e2]
    exact ph_cell0 h hs hb hu
theorem ph_pair (h : ph_rel sg N K V U M k c u m) {p sx sy : Nat} (hx : sx < 60) (hxp : sx / 20 = p) (hxu : U sx = 0) (hy : sy < 60) (hyp : sy / 20 = p) (hyu : u sy = 0) {x0 : Int32} (hx0 : ¬ x0 = 0) {kx vx ky cy kx' vx' ky' cy' : Int32} (t0 : ph_tm sg U p kx vx ky cy) (t1 : ph_tm sg U p kx' vx' ky' cy') :
    ∃ sg', sg' sx = sy ∧ ph_rel sg' N (upd (upd K (21 + 2 * sx) kx) (21 + 2 * sx + 1) kx') (upd (upd V (21 + 2 * sx) vx) (21 + 2 * sx + 1) vx') (upd U sx x0) M (upd (upd k (21 + 2 * sy) ky) (21 + 2 * sy + 1) ky') (upd (upd c (21 + 2 * sy) cy) (21 + 2 * sy + 1) cy') (upd u sy x0) m := by
  have es : (fun s => if s = sx then sy else sg s) sx = sy := if_pos rfl
  have en : ∀ s, s ≠ sx → (fun s => if s = sx then sy else sg s) s = sg s := fun s z => if_neg z
  generalize (fun s => if s = sx then sy else sg s) = sg' at es en
  have mono : ∀ {a b d e : Int32}, ph_tm sg U p a b d e → ph_tm sg' (upd U sx x0) p a b d e := by
    intro a b d e t
    refine ph_tm_mono t (fun s _ _ _ _ hu => ?_)
    have z : s ≠ sx := fun z => hu (z ▸ hxu)
    exact ⟨by rw [pk_un z]; exact hu, en s z⟩
  refine ⟨sg', es, ph_ext h (fun s => s = sx) ?_ ?_ ?_ ?_ ?_ ?_ ?_ ?_ ?_⟩
  · intro s _ e
    have e : s = sx := e
    rw [e]
    exact hxu
  · intro s _
    by_cases e : s = sx
    · subst e
      rw [pk_us]
      exact ⟨fun _ => Or.inr rfl, fun _ => hx0⟩
    · rw [pk_un e]
      exact ⟨fun z => Or.inl z, fun z => z.elim id (fun w => absurd w e)⟩
  · intro t _
    by_cases e : t = sy
    · subst e
      rw [pk_us]
      exact ⟨fun _ => Or.inr ⟨sx, hx, rfl, es⟩, fun _ => hx0⟩
    · rw [pk_un e]
      refine ⟨fun z => Or.inl z, fun z => z.elim id (fun ⟨s, _, w, w'⟩ => ?_)⟩
      have w : s = sx := w
      rw [w, es] at w'
      exact absurd w'.symm e
  · intro s _ e
    have e : s = sx := e
    rw [e, es]
    exact ⟨hy, hyp.trans hxp.symm, hyu⟩
  · intro s s' _ _ e e' _
    exact e.trans e'.symm
  · intro s _ hu
    exact en s (fun z => hu (z ▸ hxu))
  · intro q _ hq
    have z0 := hq sx 0 hx (by omega) rfl
    have z1 := hq sx 1 hx (by omega) rfl
    rw [pk_un (by omega), pk_un (by omega), pk_un (by omega), pk_un (by omega)]
    exact ⟨rfl, rfl⟩
  · intro y _ hq
    have z0 := hq sx 0 hx (by omega) rfl
    have z1 := hq sx 1 hx (by omega) rfl
    rw [es] at z0 z1
    rw [pk_un (by omega), pk_un (by omega), pk_un (by omega), pk_un (by omega)]
    exact ⟨rfl, rfl⟩
  · intro s b _ hb e
    have e : s = sx := e
    have n1 : 21 + 2 * sx ≠ 21 + 2 * sx + 1 := by omega
    have n2 : 21 + 2 * sy ≠ 21 + 2 * sy + 1 := by omega
    rw [e, es, hxp]
    by_cases b0 : b = 0
    · subst b0
      show ph_tm _ _ _ (upd (upd K (21 + 2 * sx) kx) (21 + 2 * sx + 1) kx' (21 + 2 * sx)) (upd (upd V (21 + 2 * sx) vx) (21 + 2 * sx + 1) vx' (21 + 2 * sx)) (upd (upd k (21 + 2 * sy) ky) (21 + 2 * sy + 1) ky' (21 + 2 * sy)) (upd (upd c (21 + 2 * sy) cy) (21 + 2 * sy + 1) cy' (21 + 2 * sy))
      rw [pk_un n1, pk_un n1, pk_un n2, pk_un n2, pk_us, pk_us, pk_us, pk_us]
      exact mono t0
    · have b1 : b = 1 := by omega
      subst b1
      rw [pk_us, pk_us, pk_us, pk_us]
      exact mono t1
end
end
section
/-! slots for copies, the copies, and the relation behind a send -/
def ph_al (U0 : Nat → Int32) (p : Nat) (D : Nat → Prop) (C U' : Nat → Int32) : Prop :=
  (∀ s, s < 60 → D s → ∃ a, a < 60 ∧ a / 20 = p ∧ C s = nI a ∧ U0 a = 0) ∧
  (∀ s s', s < 60 → s' < 60 → D s → D s' → C s = C s' → s = s') ∧
  (∀ a, a < 60 → (¬ U' a = 0 ↔ ¬ U0 a = 0 ∨ ∃ s, s < 60 ∧ D s ∧ C s = nI a))
theorem ph_al_0 {U0 C : Nat → Int32} {p : Nat} {D : Nat → Prop} (h : ∀ s, s < 60 → ¬ D s) : ph_al U0 p D C U0 :=
  ⟨fun s hs z => absurd z (h s hs), fun s _ hs _ z => absurd z (h s hs), fun _ _ => ⟨fun z => Or.inl z, fun z => z.elim id (fun ⟨s, hs, d, _⟩ => absurd d (h s hs))⟩⟩
theorem ph_al_s {U0 C U' : Nat → Int32} {p : Nat} {D D' : Nat → Prop} (h : ph_al U0 p D C U') {x a : Nat} (hx : x < 60) (hxD : ¬ D x) (ha : a < 60) (hap : a / 20 = p) (hau : U' a = 0) {x0 : Int32} (hx0 : ¬ x0 = 0) (hD : ∀ s, s < 60 → (D' s ↔ D s ∨ s = x)) : ph_al U0 p D' (upd C x (nI a)) (upd U' a x0) := by
  obtain ⟨h1, h2, h3⟩ := h
  have h0 : U0 a = 0 := Classical.byContradiction (fun z => (h3 a ha).mpr (Or.inl z) hau)
  have hn : ∀ s, s < 60 → D s → C s ≠ nI a := fun s hs d z => (h3 a ha).mpr (Or.inr ⟨s, hs, d, z⟩) hau
  have ne : ∀ s, D s → s ≠ x := fun s d z => hxD (z ▸ d)
  refine ⟨?_, ?_, ?_⟩
  · intro s hs d
    rcases (hD s hs).mp d with d | e
    · rw [pk_un (ne s d)]
      exact h1 s hs d
    · rw [e, pk_us]
      exact ⟨a, ha, hap, rfl, h0⟩
  · intro s s' hs hs' d d' e
    rcases (hD s hs).mp d with d | z
    · rcases (hD s' hs').mp d' with d' | z'
      · rw [pk_un (ne s d), pk_un (ne s' d')] at e
        exact h2 s s' hs hs' d d' e
      · rw [pk_un (ne s d), z', pk_us] at e
        exact absurd e (hn s hs d)
    · rcases (hD s' hs').mp d' with d' | z'
      · rw [z, pk_us, pk_un (ne s' d')] at e
        exact absurd e.symm (hn s' hs' d')
      · exact z.trans z'.symm
  · intro b hb
    by_cases e : b = a
    · subst e
      rw [pk_us]
      exact ⟨fun _ => Or.inr ⟨x, hx, (hD x hx).mpr (Or.inr rfl), pk_us⟩, fun _ => hx0⟩
    · rw [pk_un e, h3 b hb]
      constructor
      · intro z
        rcases z with z | ⟨s, hs, d, z⟩
        · exact Or.inl z
        · exact Or.inr ⟨s, hs, (hD s hs).mpr (Or.inl d), by rw [pk_un (ne s d)]; exact z⟩
      · intro z
        rcases z with z | ⟨s, hs, d, z⟩
        · exact Or.inl z
        · rcases (hD s hs).mp d with d | w
          · rw [pk_un (ne s d)] at z
            exact Or.inr ⟨s, hs, d, z⟩
          · rw [w, pk_us] at z
            exact absurd (ph_inj (by omega) (by omega) z).symm e
def ph_cv (K V C : Nat → Int32) (q : Nat) : Int32 := if K q = 2 then C (V q).toNatClampNeg else V q
theorem ph_cv2 {K V C : Nat → Int32} {q s : Nat} (hk : K q = 2) (hv : V q = nI s) (hs : s < 60) : ph_cv K V C q = C s := by
  unfold ph_cv
  rw [if_pos hk, hv, nI_clamp (by omega)]
theorem ph_cvn {K V C : Nat → Int32} {q : Nat} (hk : ¬ K q = 2) : ph_cv K V C q = V q := if_neg hk
def ph_cp (K V C : Nat → Int32) (D : Nat → Prop) (K' V' : Nat → Int32) : Prop :=
  (∀ s a b, s < 60 → a < 60 → b < 2 → D s → C s = nI a → K' (21 + 2 * a + b) = K (21 + 2 * s + b) ∧ V' (21 + 2 * a + b) = ph_cv K V C (21 + 2 * s + b)) ∧
  (∀ q, q < 141 → (∀ s a b, s < 60 → a < 60 → b < 2 → D s → C s = nI a → q ≠ 21 + 2 * a + b) → K' q = K q ∧ V' q = V q)
theorem ph_cp_0 {K V C : Nat → Int32} {D : Nat → Prop} (h : ∀ s, s < 60 → ¬ D s) : ph_cp K V C D K V :=
  ⟨fun s _ _ hs _ _ d => absurd d (h s hs), fun _ _ _ => ⟨rfl, rfl⟩⟩
theorem ph_cp_s {K V C K' V' : Nat → Int32} {D D' : Nat → Prop} (h : ph_cp K V C D K' V') {x a : Nat} (hx : x < 60) (ha : a < 60) (hc : C x = nI a) (hi : ∀ s, s < 60 → D s → C s ≠ nI a) (hD : ∀ s, s < 60 → (D' s ↔ D s ∨ s = x)) :
    ph_cp K V C D' (upd (upd K' (21 + 2 * a) (K (21 + 2 * x))) (21 + 2 * a + 1) (K (21 + 2 * x + 1))) (upd (upd V' (21 + 2 * a) (ph_cv K V C (21 + 2 * x))) (21 + 2 * a + 1) (ph_cv K V C (21 + 2 * x + 1))) := by
  obtain ⟨h1, h2⟩ := h
  refine ⟨?_, ?_⟩
  · intro s a' b hs ha' hb d e
    rcases (hD s hs).mp d with d | z
    · have ne : a' ≠ a := fun z => hi s hs d (z ▸ e)
      rw [pk_un (by omega), pk_un (by omega), pk_un (by omega), pk_un (by omega)]
      exact h1 s a' b hs ha' hb d e
    · subst z
      have : a' = a := ph_inj (by omega) (by omega) (e.symm.trans hc)
      subst this
      by_cases b0 : b = 0
      · subst b0
        exact ⟨(pk_un (by omega)).trans pk_us, (pk_un (by omega)).trans pk_us⟩
      · have b1 : b = 1 := by omega
        subst b1
        exact ⟨pk_us, pk_us⟩
  · intro q hq hn
    have z0 := hn x a 0 hx ha (by omega) ((hD x hx).mpr (Or.inr rfl)) hc
    have z1 := hn x a 1 hx ha (by omega) ((hD x hx).mpr (Or.inr rfl)) hc
    rw [pk_un (by omega), pk_un (by omega), pk_un (by omega), pk_un (by omega)]
    exact h2 q hq (fun s a' b hs ha' hb d e => hn s a' b hs ha' hb ((hD s hs).mpr (Or.inl d)) e)
theorem ph_cptm {sg sg' : Nat → Nat} {U U1 K V k c C C' : Nat → Int32} {S : Nat → Prop} {p to q y : Nat} (hsg : ∀ s, s < 60 → ¬ U s = 0 → sg s < 60) (h : ph_tm sg U p (K q) (V q) (k y) (c y)) (hS : ∀ s, s < 60 → ph_ho K V q s → S s) (HC : ∀ s, s < 60 → S s → ∃ a, a < 60 ∧ a / 20 = to ∧ ¬ U1 a = 0 ∧ C s = nI a ∧ C' (sg s) = nI (sg' a)) : ph_tm sg' U1 to (K q) (ph_cv K V C q) (k y) (ph_cv k c C' y) := by
  obtain ⟨e, h⟩ := h
  refine ⟨e, ?_⟩
  rcases h with ⟨a, b⟩ | ⟨a, b⟩ | ⟨a, b⟩ | ⟨a, s, hs, hp, hu, hv, hc⟩
  · rw [ph_cvn (K := K) (by rw [a]; decide)]
    exact Or.inl ⟨a, b⟩
  · rw [ph_cvn (K := K) (by rw [a]; decide), ph_cvn (K := k) (by rw [e, a]; decide)]
    exact Or.inr (Or.inl ⟨a, b⟩)
  · rw [ph_cvn (K := K) (by rw [a]; decide), ph_cvn (K := k) (by rw [e, a]; decide)]
    exact Or.inr (Or.inr (Or.inl ⟨a, b⟩))
  · rw [ph_cv2 (K := K) a hv hs, ph_cv2 (K := k) (e.trans a) hc (hsg s hs hu)]
    obtain ⟨a', g1, g2, g3, g4, g5⟩ := HC s hs (hS s hs ⟨a, hv⟩)
    exact Or.inr (Or.inr (Or.inr ⟨a, a', g1, g2, g3, g4, g5⟩))
theorem ph_send {sg N : Nat → Nat} {K V U M k c u m C C' K1 V1 U1 k1 c1 u1 : Nat → Int32} {S T : Nat → Prop} {to : Nat} (h : ph_rel sg N K V U M k c u m) (hS1 : ∀ s, s < 60 → S s → ¬ U s = 0 ∧ T (sg s)) (hS2 : ∀ t, t < 60 → T t → ∃ s, s < 60 ∧ ¬ U s = 0 ∧ S s ∧ sg s = t) (hcl : ph_cl K V S) (aX : ph_al U to S C U1) (aY : ph_al u to T C' u1) (cX : ph_cp K V C S K1 V1) (cY : ph_cp k c C' T k1 c1) :
    ∃ sg', ph_rel sg' N K1 V1 U1 M k1 c1 u1 m ∧ (∀ s, s < 60 → S s → ∃ a, a < 60 ∧ a / 20 = to ∧ ¬ U1 a = 0 ∧ C s = nI a ∧ C' (sg s) = nI (sg' a)) := by
  have hsg : ∀ s, s < 60 → ¬ U s = 0 → sg s < 60 := fun s hs hu => (h.2.1 s hs hu).1
  have hex : ∀ a, ∃ b, (a < 60 → ¬ U a = 0 → b = sg a) ∧ (∀ s, a < 60 → U a = 0 → s < 60 → S s → C s = nI a → b < 60 ∧ C' (sg s) = nI b) := by
    intro a
    by_cases z : U a = 0
    · by_cases w : ∃ s, a < 60 ∧ s < 60 ∧ S s ∧ C s = nI a
      · obtain ⟨s, ha, hs, hSs, e⟩ := w
        obtain ⟨hu, hT⟩ := hS1 s hs hSs
        obtain ⟨b, g1, g2, g3, g4⟩ := aY.1 (sg s) (hsg s hs hu) hT
        refine ⟨b, fun _ y => absurd z y, fun s' _ _ hs' hSs' e' => ?_⟩
        have : s' = s := aX.2.1 s' s hs' hs hSs' hSs (e'.trans e.symm)
        subst this
        exact ⟨g1, g3⟩
      · exact ⟨0, fun _ y => absurd z y, fun s ha _ hs hSs e => absurd ⟨s, ha, hs, hSs, e⟩ w⟩
    · exact ⟨sg a, fun _ _ => rfl, fun s _ y => absurd y z⟩
  obtain ⟨sg', hsg'⟩ := Classical.axiomOfChoice hex
  have hC : ∀ s, s < 60 → S s → ∃ a, a < 60 ∧ a / 20 = to ∧ U a = 0 ∧ C s = nI a ∧ sg' a < 60 ∧ C' (sg s) = nI (sg' a) := by
    intro s hs hSs
    obtain ⟨a, g1, g2, g3, g4⟩ := aX.1 s hs hSs
    obtain ⟨g5, g6⟩ := (hsg' a).2 s g1 g4 hs hSs g3
    exact ⟨a, g1, g2, g4, g3, g5, g6⟩
  have hC1 : ∀ s, s < 60 → S s → ∃ a, a < 60 ∧ a / 20 = to ∧ ¬ U1 a = 0 ∧ C s = nI a ∧ C' (sg s) = nI (sg' a) := by
    intro s hs hSs
    obtain ⟨a, g1, g2, g4, g3, g5, g6⟩ := hC s hs hSs
    exact ⟨a, g1, g2, (aX.2.2 a g1).mpr (Or.inr ⟨s, hs, hSs, g3⟩), g3, g6⟩
  have hA : ∀ a s, a < 60 → s < 60 → S s → C s = nI a → a / 20 = to ∧ U a = 0 ∧ sg' a < 60 ∧ C' (sg s) = nI (sg' a) ∧ sg' a / 20 = to ∧ u (sg' a) = 0 := by
    intro a s ha hs hSs e
    obtain ⟨a', g1, g2, g4, g3, g5, g6⟩ := hC s hs hSs
    have : a' = a := ph_inj (by omega) (by omega) (g3.symm.trans e)
    subst this
    obtain ⟨hu, hT⟩ := hS1 s hs hSs
    obtain ⟨b, k1, k2, k3, k4⟩ := aY.1 (sg s) (hsg s hs hu) hT
    have : b = sg' a' := ph_inj (by omega) (by omega) (k3.symm.trans g6)
    subst this
    exact ⟨g2, g4, g5, g6, k2, k4⟩
  refine ⟨sg', ph_ext h (fun a => ∃ s, s < 60 ∧ S s ∧ C s = nI a) ?_ ?_ ?_ ?_ ?_ ?_ ?_ ?_ ?_, hC1⟩
  · intro a ha ⟨s, hs, hSs, e⟩
    exact (hA a s ha hs hSs e).2.1
  · intro a ha
    exact aX.2.2 a ha
  · intro t ht
    rw [aY.2.2 t ht]
    constructor
    · intro z
      rcases z with z | ⟨t0, ht0, hT0, e0⟩
      · exact Or.inl z
      · obtain ⟨s, hs, hu, hSs, rfl⟩ := hS2 t0 ht0 hT0
        obtain ⟨a, g1, g2, g4, g3, g5, g6⟩ := hC s hs hSs
        exact Or.inr ⟨a, g1, ⟨s, hs, hSs, g3⟩, ph_inj (by omega) (by omega) (g6.symm.trans e0)⟩
    · intro z
      rcases z with z | ⟨a, ha, ⟨s, hs, hSs, e⟩, e'⟩
      · exact Or.inl z
      · obtain ⟨hu, hT⟩ := hS1 s hs hSs
        obtain ⟨_, _, _, g6, _, _⟩ := hA a s ha hs hSs e
        exact Or.inr ⟨sg s, hsg s hs hu, hT, by rw [← e']; exact g6⟩
  · intro a ha ⟨s, hs, hSs, e⟩
    obtain ⟨g1, g2, g3, g4, g5, g6⟩ := hA a s ha hs hSs e
    exact ⟨g3, g5.trans g1.symm, g6⟩
  · intro a a' ha ha' ⟨s, hs, hSs, e⟩ ⟨s', hs', hSs', e'⟩ z
    obtain ⟨_, _, _, g4, _, _⟩ := hA a s ha hs hSs e
    obtain ⟨_, _, _, g4', _, _⟩ := hA a' s' ha' hs' hSs' e'
    obtain ⟨hu, hT⟩ := hS1 s hs hSs
    obtain ⟨hu', hT'⟩ := hS1 s' hs' hSs'
    rw [z] at g4
    have w := aY.2.1 (sg s) (sg s') (hsg s hs hu) (hsg s' hs' hu') hT hT' (g4.trans g4'.symm)
    have w' := h.2.2.1 s s' hs hs' hu hu' w
    subst w'
    exact ph_inj (by omega) (by omega) (e.symm.trans e')
  · intro s hs hu
    exact (hsg' s).1 hs hu
  · intro q hq hn
    exact cX.2 q hq (fun s a b hs ha hb hSs e => hn a b ha hb ⟨s, hs, hSs, e⟩)
  · intro y hy hn
    refine cY.2 y hy (fun t b' b ht hb' hb hT e => ?_)
    obtain ⟨s, hs, hu, hSs, rfl⟩ := hS2 t ht hT
    obtain ⟨a, g1, g2, g4, g3, g5, g6⟩ := hC s hs hSs
    have : sg' a = b' := ph_inj (by omega) (by omega) (g6.symm.trans e)
    rw [← this]
    exact hn a b g1 hb ⟨s, hs, hSs, g3⟩
  · intro a b ha hb ⟨s, hs, hSs, e⟩
    obtain ⟨g1, g2, g3, g4, g5, g6⟩ := hA a s ha hs hSs e
    obtain ⟨hu, hT⟩ := hS1 s hs hSs
    obtain ⟨e1, e2⟩ := cX.1 s a b hs ha hb hSs e
    obtain ⟨e3, e4⟩ := cY.1 (sg s) (sg' a) b (hsg s hs hu) g3 hb hT g4
    rw [e1, e2, e3, e4, g1]
    exact ph_cptm hsg (ph_cell h hs hb hu) (fun s' hs' ho => hcl s b s' hs hb hs' hSs ho) hC1
end
section
/-! the two searches, step by step: X's list, Y's rounds -/
theorem ph_ct_0 {P : Nat → Int32} {a n : Nat} (h : ∀ i, i < n → P (a + i) = 0) : ph_ct P a n = 0 := by
  induction n with
  | zero => rfl
  | succ n ih =>
    rw [ph_ct_s0 (h n (by omega))]
    exact ih (fun i hi => h i (by omega))
theorem ph_ct_all {P : Nat → Int32} {n : Nat} (h : n ≤ ph_ct P 0 n) {s : Nat} (hs : s < n) : ¬ P s = 0 := by
  intro z
  have := ph_ct_lt (P := P) (a := 0) (n := n) z (by omega) (by omega)
  omega
/-- the list F of n slots holds the found ones, each once -/
def ph_li (I F : Nat → Int32) (n : Nat) : Prop :=
  n = ph_ct I 0 60 ∧ (∀ i, i < n → ∃ s, s < 60 ∧ F i = nI s ∧ ¬ I s = 0) ∧ (∀ i j, i < n → j < n → F i = F j → i = j) ∧ (∀ s, s < 60 → ¬ I s = 0 → ∃ i, i < n ∧ F i = nI s)
theorem ph_li_0 {I F : Nat → Int32} (h : ∀ s, s < 60 → I s = 0) : ph_li I F 0 :=
  ⟨(ph_ct_0 (fun i hi => by rw [Nat.zero_add]; exact h i hi)).symm, fun i hi => absurd hi (by omega), fun i _ hi => absurd hi (by omega), fun s hs z => absurd (h s hs) z⟩
theorem ph_li_60 {I F : Nat → Int32} {n : Nat} (h : ph_li I F n) : n ≤ 60 := by
  rw [h.1]
  exact ph_ct_le I 0 60
theorem ph_li_lt {I F : Nat → Int32} {n s : Nat} (h : ph_li I F n) (hs : s < 60) (h0 : I s = 0) : n < 60 := by
  rw [h.1]
  exact ph_ct_lt h0 (by omega) (by omega)
theorem ph_li_s {I F : Nat → Int32} {n s : Nat} (h : ph_li I F n) (hs : s < 60) (h0 : I s = 0) {x : Int32} (hx : ¬ x = 0) : ph_li (upd I s x) (upd F n (nI s)) (n + 1) := by
  obtain ⟨h1, h2, h3, h4⟩ := h
  have old : ∀ i, i < n → upd F n (nI s) i = F i := fun i hi => pk_un (by omega)
  have ns : ∀ i, i < n → F i ≠ nI s := by
    intro i hi z
    obtain ⟨s', g1, g2, g3⟩ := h2 i hi
    have : s' = s := ph_inj (by omega) (by omega) (g2.symm.trans z)
    subst this
    exact g3 h0
  refine ⟨?_, ?_, ?_, ?_⟩
  · rw [ph_ct_set hx h0 60 (by omega) (by omega), ← h1]
  · intro i hi
    by_cases e : i = n
    · subst e
      exact ⟨s, hs, pk_us, by rw [pk_us]; exact hx⟩
    · obtain ⟨s', g1, g2, g3⟩ := h2 i (by omega)
      refine ⟨s', g1, by rw [old i (by omega)]; exact g2, ?_⟩
      by_cases e' : s' = s
      · subst e'
        rw [pk_us]
        exact hx
      · rw [pk_un e']
        exact g3
  · intro i j hi hj e
    by_cases ei : i = n
    · by_cases ej : j = n
      · exact ei.trans ej.symm
      · rw [ei, pk_us, old j (by omega)] at e
        exact absurd e.symm (ns j (by omega))
    · by_cases ej : j = n
      · rw [ej, pk_us, old i (by omega)] at e
        exact absurd e (ns i (by omega))
      · rw [old i (by omega), old j (by omega)] at e
        exact h3 i j (by omega) (by omega) e
  · intro s' hs' z
    by_cases e : s' = s
    · subst e
      exact ⟨n, by omega, pk_us⟩
    · rw [pk_un e] at z
      obtain ⟨i, hi, e'⟩ := h4 s' hs' z
      exact ⟨i, by omega, by rw [old i hi]; exact e'⟩
/-- a look into cell q took (I, F, n) to (I', F', n') -/
def ph_fs (K V : Nat → Int32) (q : Nat) (I F : Nat → Int32) (n : Nat) (I' F' : Nat → Int32) (n' : Nat) : Prop :=
  ph_li I' F' n' ∧ n ≤ n' ∧ (∀ i, i < n → F' i = F i) ∧ (∀ s, s < 60 → ¬ I s = 0 → ¬ I' s = 0) ∧ (∀ s, s < 60 → ph_ho K V q s → ¬ I' s = 0) ∧ (∀ s, s < 60 → ¬ I' s = 0 → ¬ I s = 0 ∨ ph_ho K V q s)
theorem ph_fs_n {K V I F : Nat → Int32} {q n : Nat} (h : ph_li I F n) (hk : ¬ K q = 2) : ph_fs K V q I F n I F n :=
  ⟨h, Nat.le_refl n, fun _ _ => rfl, fun _ _ z => z, fun _ _ z => absurd z.1 hk, fun _ _ z => Or.inl z⟩
theorem ph_fs_o {K V I F : Nat → Int32} {q n s : Nat} (h : ph_li I F n) (hs : s < 60) (hv : V q = nI s) (hi : ¬ I s = 0) : ph_fs K V q I F n I F n := by
  refine ⟨h, Nat.le_refl n, fun _ _ => rfl, fun _ _ z => z, fun s' hs' z => ?_, fun _ _ z => Or.inl z⟩
  have : s' = s := ph_inj (by omega) (by omega) (z.2.symm.trans hv)
  subst this
  exact hi
theorem ph_fs_s {K V I F : Nat → Int32} {q n s : Nat} (h : ph_li I F n) (hs : s < 60) (hk : K q = 2) (hv : V q = nI s) (hi : I s = 0) {x : Int32} (hx : ¬ x = 0) : ph_fs K V q I F n (upd I s x) (upd F n (nI s)) (n + 1) := by
  refine ⟨ph_li_s h hs hi hx, by omega, fun i hi => pk_un (by omega), fun s' hs' z => ?_, fun s' hs' z => ?_, fun s' hs' z => ?_⟩
  · by_cases e : s' = s
    · rw [e, pk_us]
      exact hx
    · rw [pk_un e]
      exact z
  · have : s' = s := ph_inj (by omega) (by omega) (z.2.symm.trans hv)
    rw [this, pk_us]
    exact hx
  · by_cases e : s' = s
    · rw [e]
      exact Or.inr ⟨hk, hv⟩
    · rw [pk_un e] at z
      exact Or.inl z
/-- the roots: what i cells from a on hold -/
def ph_b1 (K V : Nat → Int32) (a : Nat) (I F : Nat → Int32) (n i : Nat) : Prop := ph_li I F n ∧ ∀ s, s < 60 → (¬ I s = 0 ↔ ∃ j, j < i ∧ ph_ho K V (a + j) s)
theorem ph_b1_0 {K V I F : Nat → Int32} {a : Nat} (h : ∀ s, s < 60 → I s = 0) : ph_b1 K V a I F 0 0 :=
  ⟨ph_li_0 h, fun s hs => ⟨fun z => absurd (h s hs) z, fun ⟨j, hj, _⟩ => absurd hj (by omega)⟩⟩
theorem ph_b1_s {K V I F I' F' : Nat → Int32} {a n n' i : Nat} (h : ph_b1 K V a I F n i) (f : ph_fs K V (a + i) I F n I' F' n') : ph_b1 K V a I' F' n' (i + 1) := by
  obtain ⟨f1, f2, f3, f4, f5, f6⟩ := f
  refine ⟨f1, fun s hs => ⟨fun z => ?_, fun ⟨j, hj, z⟩ => ?_⟩⟩
  · rcases f6 s hs z with w | w
    · obtain ⟨j, hj, w⟩ := (h.2 s hs).mp w
      exact ⟨j, by omega, w⟩
    · exact ⟨i, by omega, w⟩
  · by_cases e : j = i
    · subst e
      exact f5 s hs z
    · exact f4 s hs ((h.2 s hs).mpr ⟨j, by omega, z⟩)
/-- the list, gone through up to e -/
def ph_b2 (K V : Nat → Int32) (R : Nat → Prop) (I F : Nat → Int32) (n e : Nat) : Prop :=
  ph_li I F n ∧ (∀ t, t < 60 → R t → ¬ I t = 0) ∧ (∀ j s b t, j < e → j < n → s < 60 → b < 2 → t < 60 → F j = nI s → ph_ho K V (21 + 2 * s + b) t → ¬ I t = 0) ∧ (∀ S : Nat → Prop, (∀ t, t < 60 → R t → S t) → ph_cl K V S → ∀ t, t < 60 → ¬ I t = 0 → S t)
theorem ph_b2_0 {K V I F : Nat → Int32} {a n i : Nat} (h : ph_b1 K V a I F n i) : ph_b2 K V (fun s => ∃ j, j < i ∧ ph_ho K V (a + j) s) I F n 0 :=
  ⟨h.1, fun t ht z => (h.2 t ht).mpr z, fun j _ _ _ hj => absurd hj (by omega), fun _ hR _ t ht z => hR t ht ((h.2 t ht).mp z)⟩
theorem ph_b2_s {K V I F I' F' I2 F2 : Nat → Int32} {R : Nat → Prop} {n n' n2 e s : Nat} (h : ph_b2 K V R I F n e) (he : e < n) (hs : s < 60) (hF : F e = nI s) (f : ph_fs K V (21 + 2 * s) I F n I' F' n') (g : ph_fs K V (21 + 2 * s + 1) I' F' n' I2 F2 n2) : ph_b2 K V R I2 F2 n2 (e + 1) := by
  obtain ⟨h1, h2, h3, h4⟩ := h
  obtain ⟨f1, f2, f3, f4, f5, f6⟩ := f
  obtain ⟨g1, g2, g3, g4, g5, g6⟩ := g
  have up : ∀ t, t < 60 → ¬ I t = 0 → ¬ I2 t = 0 := fun t ht z => g4 t ht (f4 t ht z)
  have ol : ∀ j, j < n → F2 j = F j := fun j hj => (g3 j (by omega)).trans (f3 j hj)
  obtain ⟨s', hs', hF', hI⟩ := h1.2.1 e he
  have : s' = s := ph_inj (by omega) (by omega) (hF'.symm.trans hF)
  subst this
  refine ⟨g1, fun t ht z => up t ht (h2 t ht z), ?_, ?_⟩
  · intro j x b t hj hjn hx hb ht hFx ho
    by_cases ej : j = e
    · subst ej
      rw [ol j he] at hFx
      have : x = s' := ph_inj (by omega) (by omega) (hFx.symm.trans hF)
      subst this
      by_cases b0 : b = 0
      · subst b0
        exact g4 t ht (f5 t ht ho)
      · have b1 : b = 1 := by omega
        subst b1
        exact g5 t ht ho
    · have hjn' : j < n := by omega
      rw [ol j hjn'] at hFx
      exact up t ht (h3 j x b t (by omega) hjn' hx hb ht hFx ho)
  · intro S hR hc t ht z
    have hSs : S s' := h4 S hR hc s' hs' hI
    rcases g6 t ht z with z | z
    · rcases f6 t ht z with z | z
      · exact h4 S hR hc t ht z
      · exact hc s' 0 t hs' (by omega) ht hSs z
    · exact hc s' 1 t hs' (by omega) ht hSs z
theorem ph_b2_e {K V I F : Nat → Int32} {R : Nat → Prop} {n e : Nat} (h : ph_b2 K V R I F n e) (he : n ≤ e) : ph_lf K V R (fun s => ¬ I s = 0) := by
  obtain ⟨h1, h2, h3, h4⟩ := h
  refine ⟨h2, ?_, h4⟩
  intro s b t hs hb ht hI ho
  obtain ⟨i, hi, e'⟩ := h1.2.2.2 s hs hI
  exact h3 i s b t (by omega) hi hs hb ht e' ho
/-- Y's reached cells on the way: nothing beyond the least set over R -/
def ph_sp (k c : Nat → Int32) (R : Nat → Prop) (I : Nat → Int32) : Prop :=
  (∀ t, t < 60 → R t → ¬ I t = 0) ∧ (∀ S : Nat → Prop, (∀ t, t < 60 → R t → S t) → ph_cl k c S → ∀ t, t < 60 → ¬ I t = 0 → S t)
def ph_cu (k c I : Nat → Int32) (P : Nat) : Prop := ∀ q t, 21 ≤ q → q < P → t < 60 → ¬ I ((q - 21) / 2) = 0 → ph_ho k c q t → ¬ I t = 0
theorem ph_sp_0 {k c I : Nat → Int32} : ph_sp k c (fun t => ¬ I t = 0) I := ⟨fun _ _ z => z, fun _ h _ t ht z => h t ht z⟩
theorem ph_sp_s {k c I : Nat → Int32} {R : Nat → Prop} (h : ph_sp k c R I) {q t : Nat} (hq : 21 ≤ q) (hq2 : q < 141) (ht : t < 60) (hI : ¬ I ((q - 21) / 2) = 0) (ho : ph_ho k c q t) {x : Int32} (hx : ¬ x = 0) : ph_sp k c R (upd I t x) := by
  refine ⟨fun t' ht' z => ?_, fun S hR hc t' ht' z => ?_⟩
  · by_cases e : t' = t
    · rw [e, pk_us]
      exact hx
    · rw [pk_un e]
      exact h.1 t' ht' z
  · by_cases e : t' = t
    · subst e
      have eq : 21 + 2 * ((q - 21) / 2) + (q - 21) % 2 = q := by omega
      exact hc ((q - 21) / 2) ((q - 21) % 2) t' (by omega) (by omega) ht' (h.2 S hR hc _ (by omega) hI) (by rw [eq]; exact ho)
    · rw [pk_un e] at z
      exact h.2 S hR hc t' ht' z
theorem ph_cu_cl {k c I : Nat → Int32} (h : ph_cu k c I 141) : ph_cl k c (fun t => ¬ I t = 0) := by
  intro s b t hs hb ht hI ho
  have e : (21 + 2 * s + b - 21) / 2 = s := by omega
  exact h (21 + 2 * s + b) t (by omega) (by omega) ht (by rw [e]; exact hI) ho
theorem ph_sp_e {k c I : Nat → Int32} {R : Nat → Prop} (h : ph_sp k c R I) (hc : ph_cl k c (fun t => ¬ I t = 0)) : ph_lf k c R (fun t => ¬ I t = 0) := ⟨h.1, hc, h.2⟩
/-- the rounds of Y: r of them are done, mo says whether another is wanted -/
def ph_ro (k c : Nat → Int32) (R : Nat → Prop) (r : Nat) (mo : Int32) (I : Nat → Int32) : Prop :=
  ph_sp k c R I ∧ (¬ mo = 0 → r ≤ ph_ct I 0 60) ∧ (mo = 0 → ph_cl k c (fun t => ¬ I t = 0))
/-- within a round, ahead of place P -/
def ph_ri (k c : Nat → Int32) (R : Nat → Prop) (r P : Nat) (mo : Int32) (I : Nat → Int32) : Prop :=
  ph_sp k c R I ∧ r ≤ ph_ct I 0 60 ∧ (¬ mo = 0 → r + 1 ≤ ph_ct I 0 60) ∧ (mo = 0 → ph_cu k c I P)
theorem ph_ri_0 {k c I : Nat → Int32} {R : Nat → Prop} {r : Nat} {mo : Int32} (h : ph_ro k c R r mo I) (hm : ¬ mo = 0) : ph_ri k c R r 21 0 I :=
  ⟨h.1, h.2.1 hm, fun z => absurd rfl z, fun _ q t h1 h2 => absurd h2 (by omega)⟩
theorem ph_ri_n {k c I : Nat → Int32} {R : Nat → Prop} {r P : Nat} {mo : Int32} (h : ph_ri k c R r P mo I) (hn : ∀ t, t < 60 → ¬ I ((P - 21) / 2) = 0 → ph_ho k c P t → ¬ I t = 0) : ph_ri k c R r (P + 1) mo I := by
  refine ⟨h.1, h.2.1, h.2.2.1, fun z q t h1 h2 ht hI ho => ?_⟩
  by_cases e : q = P
  · subst e
    exact hn t ht hI ho
  · exact h.2.2.2 z q t h1 (by omega) ht hI ho
theorem ph_ri_s {k c I : Nat → Int32} {R : Nat → Prop} {r P t : Nat} {mo : Int32} (h : ph_ri k c R r P mo I) (hP : 21 ≤ P) (hP2 : P < 141) (ht : t < 60) (hI : ¬ I ((P - 21) / 2) = 0) (ho : ph_ho k c P t) (h0 : I t = 0) {x : Int32} (hx : ¬ x = 0) {mo' : Int32} (hm : ¬ mo' = 0) : ph_ri k c R r (P + 1) mo' (upd I t x) := by
  have e := ph_ct_set (P := I) (a := 0) (s := t) hx h0 60 (by omega) (by omega)
  have := h.2.1
  exact ⟨ph_sp_s h.1 hP hP2 ht hI ho hx, by omega, fun _ => by omega, fun z => absurd z hm⟩
theorem ph_ri_e {k c I : Nat → Int32} {R : Nat → Prop} {r : Nat} {mo : Int32} (h : ph_ri k c R r 141 mo I) : ph_ro k c R (r + 1) mo I :=
  ⟨h.1, h.2.2.1, fun z => ph_cu_cl (h.2.2.2 z)⟩
theorem ph_ro_e {k c I : Nat → Int32} {R : Nat → Prop} {r : Nat} {mo : Int32} (h : ph_ro k c R r mo I) (he : mo = 0 ∨ 60 ≤ r) : ph_lf k c R (fun t => ¬ I t = 0) := by
  refine ph_sp_e h.1 ?_
  by_cases z : mo = 0
  · exact h.2.2 z
  · have h60 : 60 ≤ ph_ct I 0 60 := by
      have := h.2.1 z
      rcases he with w | w
      · exact absurd w z
      · omega
    intro s b t _ _ ht _ _
    exact ph_ct_all h60 ht
end
section
/-! cleaning and making room, both sides together -/
def ph_yo (y : Nat) : Nat := if y < 12 then y / 4 else (y - 12) / 3
def ph_xr (p : Nat) (K V : Nat → Int32) (s : Nat) : Prop := ∃ i, i < 7 ∧ ph_ho K V (7 * p + i) s
def ph_yr (p : Nat) (k c u : Nat → Int32) (N : Nat → Nat) (t : Nat) : Prop := ∃ y, y < 21 ∧ ph_yo y = p ∧ ph_th u N y ∧ ph_ho k c y t
/-- X has cleaned p's heap -/
def ph_xc (p : Nat) (K V U K' V' U' : Nat → Int32) : Prop := ∃ S : Nat → Prop, ph_lf K V (ph_xr p K V) S ∧ (∀ s, s < 60 → (¬ U' s = 0 ↔ ¬ U s = 0 ∧ (s / 20 = p → S s))) ∧ (∀ q, q < 21 → K' q = K q ∧ V' q = V q) ∧ (∀ s b, s < 60 → b < 2 → (s / 20 = p → S s) → K' (21 + 2 * s + b) = K (21 + 2 * s + b) ∧ V' (21 + 2 * s + b) = V (21 + 2 * s + b)) ∧ (∀ s b, s < 60 → b < 2 → s / 20 = p → ¬ S s → K' (21 + 2 * s + b) = 0 ∧ V' (21 + 2 * s + b) = 0)
def ph_yc (p : Nat) (k c u : Nat → Int32) (N : Nat → Nat) (u' : Nat → Int32) : Prop := ∃ T : Nat → Prop, ph_lf k c (ph_yr p k c u N) T ∧ (∀ t, t < 60 → (¬ u' t = 0 ↔ ¬ u t = 0 ∧ (t / 20 = p → T t)))
section
variable {sg N : Nat → Nat} {K V U M k c u m : Nat → Int32}
theorem ph_yo_q {p i : Nat} (hp : p < 3) (hi : i < 7) : ph_yo (ph_yp sg (7 * p + i)) = p := by
  unfold ph_yo ph_yp
  rw [if_pos (show 7 * p + i < 21 by omega)]
  by_cases h : i < 4
  · rw [if_pos (show (7 * p + i) % 7 < 4 by omega), if_pos (by omega)]
    omega
  · rw [if_neg (show ¬ (7 * p + i) % 7 < 4 by omega), if_neg (by omega)]
    omega
theorem ph_xyr (h : ph_rel sg N K V U M k c u m) {p : Nat} (hp : p < 3) : (∀ s, s < 60 → ph_xr p K V s → ¬ U s = 0 ∧ ph_yr p k c u N (sg s)) ∧ (∀ t, t < 60 → ph_yr p k c u N t → ∃ s, s < 60 ∧ ph_xr p K V s ∧ sg s = t) := by
  constructor
  · intro s hs ⟨i, hi, ho⟩
    have hl : ph_live U N (7 * p + i) := Classical.byContradiction (fun z => by
      have := (h.2.2.2.2.2 (7 * p + i) (by omega) z).1
      rw [ho.1] at this
      exact absurd this (by decide))
    obtain ⟨k2, s', hs', _, hu', hv', hc'⟩ := ph_tm_x (h.2.2.2.2.1 (7 * p + i) (by omega) hl) ho.1
    have : s' = s := ph_inj (by omega) (by omega) (hv'.symm.trans ho.2)
    subst this
    exact ⟨hu', ph_yp sg (7 * p + i), ph_yp_lt hp hi, ph_yo_q hp hi, (ph_thq h (by omega) hl).2, k2, hc'⟩
  · intro t ht ⟨y, hy, hyo, hth, ho⟩
    obtain ⟨q, hq, hl, rfl⟩ := ph_thy h (by omega) hth
    have tm := h.2.2.2.2.1 q hq hl
    have k2 : K q = 2 := tm.1.symm.trans ho.1
    obtain ⟨_, s, hs, _, hu, hv, hc⟩ := ph_tm_x tm k2
    have e : sg s = t := ph_inj (by have := (h.2.1 s hs hu).1; omega) (by omega) (hc.symm.trans ho.2)
    rcases ph_q hq with ⟨p', i, hp', hi, rfl⟩ | ⟨s0, b, hs0, hb, rfl⟩
    · rw [ph_yo_q hp' hi] at hyo
      subst hyo
      exact ⟨s, hs, ⟨i, hi, k2, hv⟩, e⟩
    · rw [ph_yp_slot hb] at hy
      omega
theorem ph_clean2 (h : ph_rel sg N K V U M k c u m) {p : Nat} (hp : p < 3) {K' V' U' u' : Nat → Int32} (hx : ph_xc p K V U K' V' U') (hy : ph_yc p k c u N u') : ph_rel sg N K' V' U' M k c u' m := by
  obtain ⟨S, hS, x1, x2, x3, x4⟩ := hx
  obtain ⟨T, hT, y1⟩ := hy
  obtain ⟨r1, r2⟩ := ph_xyr h hp
  obtain ⟨c1, c2⟩ := ph_corr h hS hT r1 r2
  refine ph_clean h (p := p) (S := S) (T := T) ?_ hS.2.1 (fun i s hi hs ho => hS.1 s hs ⟨i, hi, ho⟩) x1 y1 ?_ ?_
  · intro s hs hu _
    constructor
    · intro z
      exact (c1 s hs z).2
    · intro z
      obtain ⟨s', hs', hu', hS', e⟩ := c2 (sg s) (h.2.1 s hs hu).1 z
      have := h.2.2.1 s' s hs' hs hu' hu e
      subst this
      exact hS'
  · intro q hq hl
    rcases ph_q hq with ⟨p', i, hp', hi, rfl⟩ | ⟨s, b, hs, hb, rfl⟩
    · exact x2 _ (by omega)
    · exact x3 s b hs hb ((x1 s hs).mp ((ph_live_slot hb).mp hl)).2
  · intro q hq hl
    rcases ph_q hq with ⟨p', i, hp', hi, rfl⟩ | ⟨s, b, hs, hb, rfl⟩
    · obtain ⟨e1, e2⟩ := x2 (7 * p' + i) (by omega)
      rw [e1, e2]
      refine h.2.2.2.2.2 (7 * p' + i) (by omega) (fun z => hl ?_)
      rcases z with z | ⟨z, _⟩
      · exact Or.inl z
      · omega
    · by_cases z : s / 20 = p ∧ ¬ S s
      · exact x4 s b hs hb z.1 z.2
      · have zz : s / 20 = p → S s := fun w => Classical.byContradiction (fun w' => z ⟨w, w'⟩)
        obtain ⟨e1, e2⟩ := x3 s b hs hb zz
        rw [e1, e2]
        refine ph_cell0 h hs hb (Classical.byContradiction (fun w => hl ((ph_live_slot hb).mpr ((x1 s hs).mpr ⟨w, zz⟩))))
/-- room for n pairs was looked for in p's heap -/
def ph_xm (p n : Nat) (K V U K' V' U' : Nat → Int32) : Prop := (ph_ct U (20 * p) 20 + n ≤ 20 ∧ K' = K ∧ V' = V ∧ U' = U) ∨ (¬ ph_ct U (20 * p) 20 + n ≤ 20 ∧ ph_xc p K V U K' V' U')
def ph_ym (p n : Nat) (k c u : Nat → Int32) (N : Nat → Nat) (u' : Nat → Int32) : Prop := (ph_ct u (20 * p) 20 + n ≤ 20 ∧ u' = u) ∨ (¬ ph_ct u (20 * p) 20 + n ≤ 20 ∧ ph_yc p k c u N u')
theorem ph_room2 (h : ph_rel sg N K V U M k c u m) {p n : Nat} (hp : p < 3) {K' V' U' u' : Nat → Int32} (hx : ph_xm p n K V U K' V' U') (hy : ph_ym p n k c u N u') : ph_rel sg N K' V' U' M k c u' m := by
  have e := ph_cnt h hp
  rcases hx with ⟨a, rfl, rfl, rfl⟩ | ⟨a, hx⟩
  · rcases hy with ⟨_, rfl⟩ | ⟨b, _⟩
    · exact h
    · rw [← e] at b
      exact absurd a b
  · rcases hy with ⟨b, _⟩ | ⟨_, hy⟩
    · rw [← e] at b
      exact absurd b a
    · exact ph_clean2 h hp hx hy
/-- after the room was made a cell that holds a pair holds what it held -/
theorem ph_xm_keep {p n : Nat} {K' V' U' : Nat → Int32} (hx : ph_xm p n K V U K' V' U') {q : Nat} (hq : q < 141) (hk : K' q = 2) : K q = 2 ∧ V' q = V q := by
  rcases hx with ⟨_, rfl, rfl, _⟩ | ⟨_, S, _, _, x2, x3, x4⟩
  · exact ⟨hk, rfl⟩
  · rcases ph_q hq with ⟨p', i, hp', hi, rfl⟩ | ⟨s, b, hs, hb, rfl⟩
    · obtain ⟨e1, e2⟩ := x2 (7 * p' + i) (by omega)
      exact ⟨e1.symm.trans hk, e2⟩
    · by_cases z : s / 20 = p ∧ ¬ S s
      · have := (x4 s b hs hb z.1 z.2).1
        rw [hk] at this
        exact absurd this (by decide)
      · obtain ⟨e1, e2⟩ := x3 s b hs hb (fun w => Classical.byContradiction (fun w' => z ⟨w, w'⟩))
        exact ⟨e1.symm.trans hk, e2⟩
theorem ph_xm_le {p n q : Nat} (hq : q < 141) {K' V' U' : Nat → Int32} (hx : ph_xm p n K V U K' V' U') {I I' : Nat → Int32} (f : ph_lf K V (fun s => ∃ j, j < 1 ∧ ph_ho K V (q + j) s) (fun s => ¬ I s = 0)) (f' : ph_lf K' V' (fun s => ∃ j, j < 1 ∧ ph_ho K' V' (q + j) s) (fun s => ¬ I' s = 0)) : ph_ct I' 0 60 ≤ ph_ct I 0 60 := by
  have sub : ∀ t, t < 60 → ¬ I' t = 0 → ¬ I t = 0 := by
    apply f'.2.2 (fun t => ¬ I t = 0)
    · intro t ht ⟨j, hj, ho⟩
      obtain ⟨e1, e2⟩ := ph_xm_keep hx (q := q + j) (by omega) ho.1
      exact f.1 t ht ⟨j, hj, e1, e2.symm.trans ho.2⟩
    · intro s b t hs hb ht hI ho
      obtain ⟨e1, e2⟩ := ph_xm_keep hx (q := 21 + 2 * s + b) (by omega) ho.1
      exact f.2.1 s b t hs hb ht hI ⟨e1, e2.symm.trans ho.2⟩
  exact ph_ct_inj (fun i => i) 0 60 60 I (fun i h1 h2 z => ⟨h1, h2, sub i (by omega) z⟩) (fun i j _ _ _ _ _ _ e => e)
theorem ph_lf_ct {R : Nat → Prop} {I I' : Nat → Int32} (f : ph_lf K V R (fun s => ¬ I s = 0)) (f' : ph_lf K V R (fun s => ¬ I' s = 0)) : ph_ct I' 0 60 = ph_ct I 0 60 := by
  apply ph_ct_cg
  intro i hi
  rw [Nat.zero_add]
  constructor
  · intro z
    exact Classical.byContradiction (fun w => f.2.2 _ f'.1 f'.2.1 i hi w z)
  · intro z
    exact Classical.byContradiction (fun w => f'.2.2 _ f.1 f.2.1 i hi w z)
theorem ph_ct_mono {P : Nat → Int32} {a i j : Nat} (h : i ≤ j) : ph_ct P a i ≤ ph_ct P a j := by
  induction j with
  | zero =>
    have : i = 0 := by omega
    rw [this]
    exact Nat.le_refl _
  | succ j ih =>
    by_cases e : i = j + 1
    · rw [e]
      exact Nat.le_refl _
    · have := ih (by omega)
      by_cases z : P (a + j) = 0
      · rw [ph_ct_s0 z]; exact this
      · rw [ph_ct_s1 z]; omega
/-- the search from one register, both sides -/
theorem ph_one (h : ph_rel sg N K V U M k c u m) {p r : Nat} (hp : p < 3) (hr : r < 4) {S T : Nat → Prop} (hS : ph_lf K V (fun s => ∃ j, j < 1 ∧ ph_ho K V (7 * p + r + j) s) S) (hT : ph_lf k c (fun t => ph_ho k c (4 * p + r) t) T) : (∀ s, s < 60 → S s → ¬ U s = 0 ∧ T (sg s)) ∧ (∀ t, t < 60 → T t → ∃ s, s < 60 ∧ ¬ U s = 0 ∧ S s ∧ sg s = t) := by
  have tm := ph_reg h hp hr
  apply ph_corr h hS hT
  · intro s hs ⟨j, hj, ho⟩
    have : j = 0 := by omega
    subst this
    obtain ⟨k2, s', hs', _, hu', hv', hc'⟩ := ph_tm_x tm ho.1
    have : s' = s := ph_inj (by omega) (by omega) (hv'.symm.trans ho.2)
    subst this
    exact ⟨hu', k2, hc'⟩
  · intro t ht ho
    have k2 : K (7 * p + r) = 2 := tm.1.symm.trans ho.1
    obtain ⟨_, s, hs, _, hu, hv, hc⟩ := ph_tm_x tm k2
    exact ⟨s, hs, ⟨0, by omega, k2, hv⟩, ph_inj (by have := (h.2.1 s hs hu).1; omega) (by omega) (hc.symm.trans ho.2)⟩
end
theorem ph_send2 {sg N : Nat → Nat} {K V U M k c u m C C' K1 V1 U1 k1 c1 u1 : Nat → Int32} {S T : Nat → Prop} {p r to : Nat} (h : ph_rel sg N K V U M k c u m) (hp : p < 3) (hr : r < 4) (hto : to < 3) (hN : N to < 3) (hS : ph_lf K V (fun s => ∃ j, j < 1 ∧ ph_ho K V (7 * p + r + j) s) S) (hT : ph_lf k c (fun t => ph_ho k c (4 * p + r) t) T) (aX : ph_al U to S C U1) (aY : ph_al u to T C' u1) (cX : ph_cp K V C S K1 V1) (cY : ph_cp k c C' T k1 c1) :
    ∃ sg' N', ph_rel sg' N' (upd K1 (7 * to + 4 + N to) (K (7 * p + r))) (upd V1 (7 * to + 4 + N to) (ph_cv K V C (7 * p + r))) U1 (upd M to (nI (N to + 1))) (upd k1 (12 + 3 * to + N to) (k (4 * p + r))) (upd c1 (12 + 3 * to + N to) (ph_cv k c C' (4 * p + r))) u1 (upd m to (nI (N to + 1))) := by
  obtain ⟨d1, d2⟩ := ph_one h hp hr hS hT
  obtain ⟨sg', hr', hC⟩ := ph_send h d1 d2 hS.2.1 aX aY cX cY
  exact ⟨sg', ph_nu N to (N to + 1), ph_push hr' hto hN (ph_cptm (fun s hs hu => (h.2.1 s hs hu).1) (ph_reg h hp hr) (fun s hs ho => hS.1 s hs ⟨0, by omega, ho⟩) hC)⟩
end
section
/-! steps of the loops that remove, reach, and use -/
def ph_rm (p : Nat) (I K V U : Nat → Int32) (i : Nat) (K' V' U' : Nat → Int32) : Prop :=
  (∀ q, q < 21 → K' q = K q ∧ V' q = V q) ∧
  (∀ s, s < 60 → 20 * p ≤ s ∧ s < 20 * p + i ∧ I s = 0 → U' s = 0 ∧ ∀ b, b < 2 → K' (21 + 2 * s + b) = 0 ∧ V' (21 + 2 * s + b) = 0) ∧
  (∀ s, s < 60 → ¬ (20 * p ≤ s ∧ s < 20 * p + i ∧ I s = 0) → U' s = U s ∧ ∀ b, b < 2 → K' (21 + 2 * s + b) = K (21 + 2 * s + b) ∧ V' (21 + 2 * s + b) = V (21 + 2 * s + b))
theorem ph_rm_0 {p : Nat} {I K V U : Nat → Int32} : ph_rm p I K V U 0 K V U :=
  ⟨fun _ _ => ⟨rfl, rfl⟩, fun s _ h => absurd h (by omega), fun _ _ _ => ⟨rfl, fun _ _ => ⟨rfl, rfl⟩⟩⟩
theorem ph_rm_n {p i : Nat} {I K V U K' V' U' : Nat → Int32} (h : ph_rm p I K V U i K' V' U') (hI : ¬ I (20 * p + i) = 0) : ph_rm p I K V U (i + 1) K' V' U' := by
  obtain ⟨h1, h2, h3⟩ := h
  refine ⟨h1, fun s hs z => ?_, fun s hs z => ?_⟩
  · by_cases e : s = 20 * p + i
    · rw [e] at z
      exact absurd z.2.2 hI
    · exact h2 s hs ⟨z.1, by omega, z.2.2⟩
  · exact h3 s hs (fun w => z ⟨w.1, by omega, w.2.2⟩)
theorem ph_rm_s {p i s : Nat} {I K V U K' V' U' : Nat → Int32} (h : ph_rm p I K V U i K' V' U') (hI : I (20 * p + i) = 0) (hs : s = 20 * p + i) : ph_rm p I K V U (i + 1) (upd (upd K' (21 + 2 * s) 0) (21 + 2 * s + 1) 0) (upd (upd V' (21 + 2 * s) 0) (21 + 2 * s + 1) 0) (upd U' s 0) := by
  obtain ⟨h1, h2, h3⟩ := h
  rw [← hs] at hI
  refine ⟨fun q hq => ?_, fun s' hs' z => ?_, fun s' hs' z => ?_⟩
  · rw [pk_un (by omega), pk_un (by omega), pk_un (by omega), pk_un (by omega)]
    exact h1 q hq
  · by_cases e : s' = s
    · rw [e]
      refine ⟨pk_us, fun b hb => ?_⟩
      by_cases b0 : b = 0
      · subst b0
        exact ⟨(pk_un (by omega)).trans pk_us, (pk_un (by omega)).trans pk_us⟩
      · have b1 : b = 1 := by omega
        subst b1
        exact ⟨pk_us, pk_us⟩
    · obtain ⟨g1, g2⟩ := h2 s' hs' ⟨z.1, by omega, z.2.2⟩
      refine ⟨by rw [pk_un e]; exact g1, fun b hb => ?_⟩
      rw [pk_un (by omega), pk_un (by omega), pk_un (by omega), pk_un (by omega)]
      exact g2 b hb
  · have e : s' ≠ s := fun w => z (by rw [w]; exact ⟨by omega, by omega, hI⟩)
    obtain ⟨g1, g2⟩ := h3 s' hs' (fun w => z ⟨w.1, by omega, w.2.2⟩)
    refine ⟨by rw [pk_un e]; exact g1, fun b hb => ?_⟩
    rw [pk_un (by omega), pk_un (by omega), pk_un (by omega), pk_un (by omega)]
    exact g2 b hb
theorem ph_rm_e {p : Nat} {I K V U K' V' U' : Nat → Int32} (h : ph_rm p I K V U 20 K' V' U') (hl : ph_lf K V (ph_xr p K V) (fun s => ¬ I s = 0)) : ph_xc p K V U K' V' U' := by
  obtain ⟨h1, h2, h3⟩ := h
  refine ⟨_, hl, fun s hs => ?_, h1, fun s b hs hb z => ?_, fun s b hs hb z z' => ?_⟩
  · by_cases w : 20 * p ≤ s ∧ s < 20 * p + 20 ∧ I s = 0
    · obtain ⟨g, _⟩ := h2 s hs w
      exact ⟨fun y => absurd g y, fun y => absurd w.2.2 (y.2 (by omega))⟩
    · obtain ⟨g, _⟩ := h3 s hs w
      rw [g]
      exact ⟨fun y => ⟨y, fun e x => w ⟨by omega, by omega, x⟩⟩, fun y => y.1⟩
  · exact (h3 s hs (fun w => z (by omega) w.2.2)).2 b hb
  · exact (h2 s hs ⟨by omega, by omega, Classical.byContradiction z'⟩).2 b hb
/-- Y's roots, ahead of place y -/
def ph_yk (p : Nat) (k c u : Nat → Int32) (N : Nat → Nat) (y : Nat) (R : Nat → Int32) : Prop := ∀ t, t < 60 → (¬ R t = 0 ↔ ∃ y', y' < y ∧ ph_yo y' = p ∧ ph_th u N y' ∧ ph_ho k c y' t)
theorem ph_yk_0 {p : Nat} {k c u R : Nat → Int32} {N : Nat → Nat} (h : ∀ t, t < 60 → R t = 0) : ph_yk p k c u N 0 R := fun t ht => ⟨fun z => absurd (h t ht) z, fun ⟨_, hy, _⟩ => absurd hy (by omega)⟩
theorem ph_yk_n {p y : Nat} {k c u R : Nat → Int32} {N : Nat → Nat} (h : ph_yk p k c u N y R) (hn : ¬ (ph_yo y = p ∧ k y = 2 ∧ ph_th u N y)) : ph_yk p k c u N (y + 1) R := by
  intro t ht
  rw [h t ht]
  constructor
  · intro ⟨y', h1, h2⟩
    exact ⟨y', by omega, h2⟩
  · intro ⟨y', h1, h2, h3, h4⟩
    by_cases e : y' = y
    · rw [e] at h2 h3 h4
      exact absurd ⟨h2, h4.1, h3⟩ hn
    · exact ⟨y', by omega, h2, h3, h4⟩
theorem ph_yk_s {p y s : Nat} {k c u R : Nat → Int32} {N : Nat → Nat} (h : ph_yk p k c u N y R) (ho : ph_yo y = p) (hk : k y = 2) (ht : ph_th u N y) (hs : s < 60) (hc : c y = nI s) {x : Int32} (hx : ¬ x = 0) : ph_yk p k c u N (y + 1) (upd R s x) := by
  intro t h60
  by_cases e : t = s
  · rw [e, pk_us]
    exact ⟨fun _ => ⟨y, by omega, ho, ht, hk, hc⟩, fun _ => hx⟩
  · rw [pk_un e, h t h60]
    constructor
    · intro ⟨y', h1, h2⟩
      exact ⟨y', by omega, h2⟩
    · intro ⟨y', h1, h2, h3, h4⟩
      by_cases e' : y' = y
      · rw [e'] at h4
        exact absurd (ph_inj (by omega) (by omega) (h4.2.symm.trans hc)) e
      · exact ⟨y', by omega, h2, h3, h4⟩
/-- Y's use of what it reached -/
def ph_yu (p : Nat) (R u : Nat → Int32) (i : Nat) (u' : Nat → Int32) : Prop := ∀ t, t < 60 → (¬ u' t = 0 ↔ ¬ u t = 0 ∧ (20 * p ≤ t ∧ t < 20 * p + i → ¬ R t = 0))
theorem ph_yu_0 {p : Nat} {R u : Nat → Int32} : ph_yu p R u 0 u := fun t _ => ⟨fun z => ⟨z, fun w => absurd w (by omega)⟩, fun z => z.1⟩
theorem ph_yu_s {p i : Nat} {R u u' : Nat → Int32} (h : ph_yu p R u i u') {x : Int32} (hp : 20 * p + i < 60) (hx : ¬ x = 0 ↔ ¬ u' (20 * p + i) = 0 ∧ ¬ R (20 * p + i) = 0) : ph_yu p R u (i + 1) (upd u' (20 * p + i) x) := by
  intro t ht
  by_cases e : t = 20 * p + i
  · rw [e, pk_us, hx, h _ hp]
    exact ⟨fun z => ⟨z.1.1, fun _ => z.2⟩, fun z => ⟨⟨z.1, fun w => absurd w (by omega)⟩, z.2 (by omega)⟩⟩
  · rw [pk_un e, h t ht]
    exact ⟨fun z => ⟨z.1, fun w => z.2 (by omega)⟩, fun z => ⟨z.1, fun w => z.2 (by omega)⟩⟩
theorem ph_yu_e {p : Nat} {k c u R u' : Nat → Int32} {N : Nat → Nat} (h : ph_yu p R u 20 u') (hl : ph_lf k c (ph_yr p k c u N) (fun t => ¬ R t = 0)) : ph_yc p k c u N u' := by
  refine ⟨_, hl, fun t ht => ?_⟩
  rw [h t ht]
  exact ⟨fun z => ⟨z.1, fun w => z.2 (by omega)⟩, fun z => ⟨z.1, fun w => z.2 (by omega)⟩⟩
end
section
/-! X's methods of its own, each with a general post -/
theorem xm_n1 : vp_nar .boolean 1 = 1 := by rfl
theorem xm_n0 : vp_nar .boolean 0 = 0 := by rfl
theorem xm_isProc1 {post : Int32 → Prop} {p : Nat} (hp : p < 3) (h : post 1) : wpX_isProcess post (nI p) :=
  br_f (nI_pos (by omega)) (br_f (nI_ge (b := 3) hp (by decide)) h)
theorem xm_isProc0 {post : Int32 → Prop} {x : Int32} (hx : ∀ p, p < 3 → x ≠ nI p) (h : post 0) : wpX_isProcess post x := by
  rcases pk_ix x (n := 3) (by decide) with h1 | h1 | ⟨j, hj, e⟩
  · exact br_t h1 h
  · by_cases h2 : x < 0
    · exact br_t h2 h
    · exact br_f h2 (br_t h1 h)
  · exact absurd e (hx j hj)
theorem xm_isReg1 {post : Int32 → Prop} {p r : Nat} (hp : p < 3) (hr : r < 4) (h : post 1) : wpX_isRegister post (nI p) (nI r) := by
  unfold wpX_isRegister
  exact xm_isProc1 hp (br_f (by decide) (br_f (nI_pos (by omega)) (br_f (nI_ge (b := 4) hr (by decide)) h)))
theorem xm_isReg0 {post : Int32 → Prop} {x y : Int32} (h0 : ¬ ∃ p r, p < 3 ∧ r < 4 ∧ x = nI p ∧ y = nI r) (h : post 0) : wpX_isRegister post x y := by
  unfold wpX_isRegister
  by_cases hx : ∃ p, p < 3 ∧ x = nI p
  · obtain ⟨p, hp, rfl⟩ := hx
    refine xm_isProc1 hp (br_f (by decide) ?_)
    rcases pk_ix y (n := 4) (by decide) with h1 | h1 | ⟨j, hj, e⟩
    · exact br_t h1 h
    · by_cases h2 : y < 0
      · exact br_t h2 h
      · exact br_f h2 (br_t h1 h)
    · exact absurd ⟨p, j, hp, hj, rfl, e⟩ h0
  · exact xm_isProc0 (fun p hp e => hx ⟨p, hp, e⟩) (br_t rfl h)
theorem xm_e7 (p r : Nat) : nI p * 7 + nI r = nI (7 * p + r) := by
  rw [show (7 : Int32) = nI 7 from rfl, pk_mul, nI_add, Nat.mul_comm p 7]
theorem xm_e20 (p r : Nat) : nI p * 20 + nI r = nI (20 * p + r) := by
  rw [show (20 : Int32) = nI 20 from rfl, pk_mul, nI_add, Nat.mul_comm p 20]
theorem xm_e20' (p : Nat) : nI p * 20 = nI (20 * p) := by
  rw [show (20 : Int32) = nI 20 from rfl, pk_mul, Nat.mul_comm p 20]
theorem xm_e21 (s : Nat) : 21 + 2 * nI s = nI (21 + 2 * s) := by
  rw [show (21 : Int32) = nI 21 from rfl, show (2 : Int32) = nI 2 from rfl, pk_mul, nI_add]
theorem xm_reg {post : Int32 → Prop} {p r : Nat} (h : post (nI (7 * p + r))) : wpX_registerCell post (nI p) (nI r) := by
  unfold wpX_registerCell
  rw [xm_e7]
  exact h
theorem xm_reg0 {post : Int32 → Prop} {p : Nat} (h : post (nI (7 * p))) : wpX_registerCell post (nI p) 0 := xm_reg (r := 0) h
theorem xm_mailc {post : Int32 → Prop} {p j : Nat} (h : post (nI (7 * p + 4 + j))) : wpX_mailCell post (nI p) (nI j) := by
  unfold wpX_mailCell
  rw [show nI p * 7 + 4 = nI (7 * p + 4) from xm_e7 p 4, nI_add]
  exact h
theorem xm_head {post : Int32 → Prop} {s : Nat} (h : post (nI (21 + 2 * s))) : wpX_headCell post (nI s) := by
  unfold wpX_headCell
  rw [xm_e21]
  exact h
section
variable {fc : Int32} {K V M U F I C : Nat → Int32}
theorem xm_set {post : SX → Prop} {q : Nat} {a b : Int32} (hq : q < 141) (h : post (fc, upd K q a, upd V q b, M, U, F, I, C)) : wpX_setCell post (fc, K, V, M, U, F, I, C) (nI q) a b := by
  have e : (nI q).toNatClampNeg = q := nI_clamp (by omega)
  unfold wpX_setCell
  dsimp only
  refine ⟨vp_in_nI hq (by decide), fun y1 e1 => ⟨vp_in_nI hq (by decide), fun y2 e2 => ?_⟩⟩
  rw [e] at e1 e2
  rw [e1, e2]
  exact h
theorem xm_kept {post : Int32 → Prop} {x : Int32} (h1 : (∃ q, q < 141 ∧ K q = 3 ∧ V q = x) → post 1) (h0 : (¬ ∃ q, q < 141 ∧ K q = 3 ∧ V q = x) → post 0) : wpX_isKept post (fc, K, V, M, U, F, I, C) x := by
  have H : ∀ n i, i ≤ 141 → 141 - i < n → (∀ q, q < i → ¬ (K q = 3 ∧ V q = x)) → wX_isKept_2 post x fc K V M U F I C n (nI i) := by
    intro n
    induction n with
    | zero => intro i _ h; omega
    | succ n ih =>
      intro i hi hn hq
      refine pk_le 141 i (fun hle => h0 (fun ⟨q, hq', z⟩ => hq q (by omega) z)) (fun hlt => ⟨vp_in_nI hlt (by decide), ?_⟩)
      rw [nI_clamp (by omega)]
      by_cases k3 : K i = 3
      · refine br_t k3 ⟨vp_in_nI hlt (by decide), ?_⟩
        by_cases v : V i = x
        · exact br_t v (h1 ⟨i, hlt, k3, v⟩)
        · exact br_f v (nm_r (nI_1 i) (ih (i + 1) (by omega) (by omega) (lt_s hq (fun z => v z.2))))
      · exact br_f k3 (nm_r (nI_1 i) (ih (i + 1) (by omega) (by omega) (lt_s hq (fun z => k3 z.1))))
  exact ⟨142, H 142 0 (by omega) (by omega) lt_0⟩
theorem xm_free {post : Int32 → Prop} (h : ∀ b, b ≤ 6 → (∀ j, j < b → ∃ q, q < 141 ∧ K q = 3 ∧ V q = nI j) → (b < 6 → ¬ ∃ q, q < 141 ∧ K q = 3 ∧ V q = nI b) → post (nI b)) : wpX_leastFreeBlob post (fc, K, V, M, U, F, I, C) := by
  have H : ∀ n i, i ≤ 6 → 6 - i < n → (∀ j, j < i → ∃ q, q < 141 ∧ K q = 3 ∧ V q = nI j) → wX_leastFreeBlob_2 post fc K V M U F I C n (nI i) := by
    intro n
    induction n with
    | zero => intro i _ h; omega
    | succ n ih =>
      intro i hi hn hq
      refine pk_le 6 i (fun hle => ?_) (fun hlt => ?_)
      · have e : i = 6 := by omega
        subst e
        exact h 6 (by omega) hq (fun z => absurd z (by omega))
      · refine xm_kept (fun z => ?_) (fun z => ?_)
        · exact br_f (by decide) (nm_r (nI_1 i) (ih (i + 1) (by omega) (by omega) (lt_s hq z)))
        · exact br_t rfl (h i hi hq (fun _ => z))
  exact ⟨7, H 7 0 (by omega) (by omega) lt_0⟩
theorem xm_count {post : Int32 → Prop} {p : Nat} (hp : p < 3) (h : post (nI (ph_ct U (20 * p) 20))) : wpX_countPairs post (fc, K, V, M, U, F, I, C) (nI p) := by
  have H : ∀ n i, i ≤ 20 → 20 - i < n → wX_countPairs_4 post (nI p) fc K V M U F I C n (nI (ph_ct U (20 * p) i)) (nI i) := by
    intro n
    induction n with
    | zero => intro i _ h; omega
    | succ n ih =>
      intro i hi hn
      refine pk_le 20 i (fun hle => ?_) (fun hlt => ?_)
      · have e : i = 20 := by omega
        subst e
        exact h
      · rw [xm_e20]
        refine ⟨vp_in_nI (by omega) (by decide), ?_⟩
        rw [nI_clamp (by omega)]
        by_cases z : U (20 * p + i) = 0
        · refine br_t z (nm_r (nI_1 i) ?_)
          have := ih (i + 1) (by omega) (by omega)
          rw [ph_ct_s0 z] at this
          exact this
        · refine br_f z (nm_r (nI_1 _) (nm_r (nI_1 i) ?_))
          have := ih (i + 1) (by omega) (by omega)
          rw [ph_ct_s1 z] at this
          exact this
  exact ⟨21, H 21 0 (by omega) (by omega)⟩
theorem xm_take {post : Int32 → SX → Prop} {p : Nat} (hp : p < 3) (hex : ph_ct U (20 * p) 20 < 20) (h : ∀ s, 20 * p ≤ s → s < 20 * p + 20 → U s = 0 → post (nI s) (fc, K, V, M, upd U s 1, F, I, C)) : wpX_takeSlot post (fc, K, V, M, U, F, I, C) (nI p) := by
  have H : ∀ n i, i ≤ 19 → 19 - i < n → (∀ j, j < i → ¬ U (20 * p + j) = 0) → wX_takeSlot_12 post (nI (20 * p + 19)) fc K V M U F I C n (nI (20 * p + i)) := by
    intro n
    induction n with
    | zero => intro i _ h; omega
    | succ n ih =>
      intro i hi hn hu
      refine pk_le (20 * p + 19) (20 * p + i) (fun hle => ?_) (fun hlt => ⟨vp_in_nI (by omega) (by decide), ?_⟩)
      · obtain ⟨s, h1, h2, h3⟩ := ph_ct_ex hex
        have e : s = 20 * p + i := by
          by_cases z : s - 20 * p < i
          · have := hu (s - 20 * p) z
            rw [show 20 * p + (s - 20 * p) = s by omega] at this
            exact absurd h3 this
          · omega
        refine ⟨vp_in_nI (by omega) (by decide), ?_⟩
        rw [nI_clamp (by omega), xm_n1]
        exact nm_e (h _ (by omega) (by omega) (e ▸ h3))
      · rw [nI_clamp (by omega), xm_n1]
        by_cases z : U (20 * p + i) = 0
        · exact br_t z ⟨vp_in_nI (by omega) (by decide), nm_e (h _ (by omega) (by omega) z)⟩
        · exact br_f z (nm_r (nI_1 _) (ih (i + 1) (by omega) (by omega) (lt_s hu z)))
  unfold wpX_takeSlot
  dsimp only
  refine nm_r (xm_e20' p) (nm_r (e' := nI (20 * p + 19)) ?_ ⟨20, H 20 0 (by omega) (by omega) lt_0⟩)
  rw [show (20 : Int32) = nI 20 from rfl, nI_add, nI_pred]
theorem xm_look {post : SX → Prop} {q n : Nat} (hq : q < 141) (hl : ph_li I F n) (hg : K q = 2 → ∃ s, s < 60 ∧ V q = nI s) (h : ∀ I' F' n', ph_fs K V q I F n I' F' n' → post (nI n', K, V, M, U, F', I', C)) : wpX_findInCell post (nI n, K, V, M, U, F, I, C) (nI q) := by
  have n60 := ph_li_60 hl
  have iq : vp_in (nI q) 141 := vp_in_nI hq (by decide)
  unfold wpX_findInCell
  dsimp only
  refine ⟨iq, ?_⟩
  rw [nI_clamp (n := q) (by omega)]
  by_cases k2 : K q = 2
  · obtain ⟨s, hs, hv⟩ := hg k2
    rw [hv]
    have is : vp_in (nI s) 60 := vp_in_nI hs (by decide)
    refine br_t k2 ⟨iq, is, ?_⟩
    rw [nI_clamp (n := s) (by omega)]
    by_cases z : I s = 0
    · have nl := ph_li_lt hl hs z
      refine br_t z ⟨iq, is, ?_⟩
      rw [xm_n1, nI_clamp (n := n) (by omega)]
      exact nm_e ⟨iq, vp_in_nI nl (by decide), nm_e (nm_r (nI_1 n) (h _ _ _ (ph_fs_s hl hs k2 hv z (by decide))))⟩
    · exact br_f z (h _ _ _ (ph_fs_o hl hs hv z))
  · exact br_f k2 (h _ _ _ (ph_fs_n hl k2))
theorem xm_find {post : SX → Prop} {a cn : Nat} (ha : a + cn ≤ 141) (hg : ∀ q, q < 141 → K q = 2 → ∃ s, s < 60 ∧ V q = nI s) (h : ∀ I' F' n', ph_li I' F' n' → ph_lf K V (fun s => ∃ j, j < cn ∧ ph_ho K V (a + j) s) (fun s => ¬ I' s = 0) → post (nI n', K, V, M, U, F', I', C)) : wpX_findFromCells post (fc, K, V, M, U, F, I, C) (nI a) (nI cn) := by
  have H3 : ∀ x e n I F, e ≤ 60 → 60 - e < x → ph_b2 K V (fun s => ∃ j, j < cn ∧ ph_ho K V (a + j) s) I F n e → wX_findFromCells_48 post x (nI e) (nI n) K V M U F I C := by
    intro x
    induction x with
    | zero => intro e n I F _ h; omega
    | succ x ih =>
      intro e n I F he hx hb
      have n60 := ph_li_60 hb.1
      refine pk_le 60 e (fun hle => ?_) (fun hlt => pk_le n e (fun hle => ?_) (fun hlt' => ⟨vp_in_nI hlt (by decide), ?_⟩))
      · exact h I F n hb.1 (ph_b2_e hb (by omega))
      · exact h I F n hb.1 (ph_b2_e hb hle)
      · obtain ⟨s, hs, hF, _⟩ := hb.1.2.1 e hlt'
        rw [nI_clamp (by omega), hF]
        refine xm_head ?_
        refine xm_look (by omega) hb.1 (hg _ (by omega)) (fun I1 F1 n1 f1 => ?_)
        dsimp only
        rw [nI_1 (21 + 2 * s)]
        refine xm_look (by omega) f1.1 (hg _ (by omega)) (fun I2 F2 n2 f2 => ?_)
        exact nm_r (nI_1 e) (ih (e + 1) n2 I2 F2 (by omega) (by omega) (ph_b2_s hb hlt' hs hF f1 f2))
  have H2 : ∀ x i n I F, i ≤ cn → cn - i < x → ph_b1 K V a I F n i → wX_findFromCells_28 post (nI a) (nI cn) x (nI i) (nI n) K V M U F I C := by
    intro x
    induction x with
    | zero => intro i n I F _ h; omega
    | succ x ih =>
      intro i n I F hi hx hb
      refine pk_le cn i (fun hle => ?_) (fun hlt => ?_)
      · have e : i = cn := by omega
        subst e
        exact ⟨61, H3 61 0 n I F (by omega) (by omega) (ph_b2_0 hb)⟩
      · rw [nI_add]
        refine xm_look (by omega) hb.1 (hg _ (by omega)) (fun I1 F1 n1 f1 => ?_)
        exact nm_r (nI_1 i) (ih (i + 1) n1 I1 F1 (by omega) (by omega) (ph_b1_s hb f1))
  have H1 : ∀ x i I, i ≤ 60 → 60 - i < x → (∀ s, s < i → I s = 0) → wX_findFromCells_2 post (nI a) (nI cn) fc x (nI i) K V M U F I C := by
    intro x
    induction x with
    | zero => intro i I _ h; omega
    | succ x ih =>
      intro i I hi hx hI
      refine pk_le 60 i (fun hle => ?_) (fun hlt => ⟨vp_in_nI hlt (by decide), ?_⟩)
      · exact ⟨cn + 1, H2 (cn + 1) 0 0 I F (by omega) (by omega) (ph_b1_0 (fun s hs => hI s (by omega)))⟩
      · rw [nI_clamp (by omega), xm_n0]
        refine nm_e (nm_r (nI_1 i) (ih (i + 1) (upd I i 0) (by omega) (by omega) (fun s hs => ?_)))
        by_cases e : s = i
        · rw [e, pk_us]
        · rw [pk_un e]
          exact hI s (by omega)
  exact ⟨61, H1 61 0 I (by omega) (by omega) lt_0⟩
theorem xm_rempair {post : SX → Prop} {s : Nat} (hs : s < 60) (h : post (fc, upd (upd K (21 + 2 * s) 0) (21 + 2 * s + 1) 0, upd (upd V (21 + 2 * s) 0) (21 + 2 * s + 1) 0, M, upd U s 0, F, I, C)) : wpX_removePair post (fc, K, V, M, U, F, I, C) (nI s) := by
  unfold wpX_removePair
  dsimp only
  refine xm_head ⟨vp_in_nI hs (by decide), ?_⟩
  rw [nI_clamp (by omega), xm_n0, nI_1 (21 + 2 * s)]
  refine nm_e ?_
  refine xm_set (by omega) ?_
  dsimp only
  exact xm_set (by omega) h
theorem xm_clean {post : SX → Prop} {p : Nat} (hp : p < 3) (hg : ∀ q, q < 141 → K q = 2 → ∃ s, s < 60 ∧ V q = nI s) (h : ∀ fc' K' V' U' F' I', ph_xc p K V U K' V' U' → post (fc', K', V', M, U', F', I', C)) : wpX_removeUnreached post (fc, K, V, M, U, F, I, C) (nI p) := by
  unfold wpX_removeUnreached
  dsimp only
  refine xm_reg0 ?_
  refine xm_find (cn := 7) (by omega) hg (fun I1 F1 n1 hl1 hf => ?_)
  dsimp only
  have H : ∀ x i K' V' U', i ≤ 20 → 20 - i < x → ph_rm p I1 K V U i K' V' U' → wX_removeUnreached_15 post (nI p) x (nI i) (nI n1) K' V' M U' F1 I1 C := by
    intro x
    induction x with
    | zero => intro i _ _ _ _ h; omega
    | succ x ih =>
      intro i K' V' U' hi hx hr
      refine pk_le 20 i (fun hle => ?_) (fun hlt => nm_r (xm_e20 p i) ⟨vp_in_nI (by omega) (by decide), ?_⟩)
      · have e : i = 20 := by omega
        subst e
        exact h _ _ _ _ _ _ (ph_rm_e hr hf)
      · rw [nI_clamp (by omega)]
        by_cases z : I1 (20 * p + i) = 0
        · refine br_t z (xm_rempair (by omega) ?_)
          exact nm_r (nI_1 i) (ih (i + 1) _ _ _ (by omega) (by omega) (ph_rm_s hr z rfl))
        · exact br_f z (nm_r (nI_1 i) (ih (i + 1) _ _ _ (by omega) (by omega) (ph_rm_n hr z)))
  exact ⟨21, H 21 0 K V U (by omega) (by omega) ph_rm_0⟩
end
end
section
/-! X: room, copies, mail -/
theorem ph_al_cg {U0 C U' : Nat → Int32} {p : Nat} {D D' : Nat → Prop} (hD : ∀ s, s < 60 → (D s ↔ D' s)) (h : ph_al U0 p D C U') : ph_al U0 p D' C U' := by
  obtain ⟨h1, h2, h3⟩ := h
  refine ⟨fun s hs d => h1 s hs ((hD s hs).mpr d), fun s s' hs hs' d d' e => h2 s s' hs hs' ((hD s hs).mpr d) ((hD s' hs').mpr d') e, fun a ha => (h3 a ha).trans ⟨fun z => ?_, fun z => ?_⟩⟩
  · exact z.elim Or.inl (fun ⟨s, hs, d, e⟩ => Or.inr ⟨s, hs, (hD s hs).mp d, e⟩)
  · exact z.elim Or.inl (fun ⟨s, hs, d, e⟩ => Or.inr ⟨s, hs, (hD s hs).mpr d, e⟩)
theorem ph_cp_cg {K V C K' V' : Nat → Int32} {D D' : Nat → Prop} (hD : ∀ s, s < 60 → (D s ↔ D' s)) (h : ph_cp K V C D K' V') : ph_cp K V C D' K' V' :=
  ⟨fun s a b hs ha hb d e => h.1 s a b hs ha hb ((hD s hs).mpr d) e, fun q hq hn => h.2 q hq (fun s a b hs ha hb d e => hn s a b hs ha hb ((hD s hs).mp d) e)⟩
theorem ph_cp_k {K V C K' V' : Nat → Int32} {D : Nat → Prop} (h : ph_cp K V C D K' V') {x b : Nat} (hx : x < 60) (hb : b < 2) (hn : ∀ s a, s < 60 → a < 60 → D s → C s = nI a → a ≠ x) : K' (21 + 2 * x + b) = K (21 + 2 * x + b) ∧ V' (21 + 2 * x + b) = V (21 + 2 * x + b) :=
  h.2 _ (by omega) (fun s a b' hs ha hb' d e => by
    have := hn s a hs ha d e
    omega)
theorem ph_cv_cg {K V C K' V' : Nat → Int32} {q : Nat} (h : K' q = K q ∧ V' q = V q) : ph_cv K' V' C q = ph_cv K V C q := by
  unfold ph_cv
  rw [h.1, h.2]
section
variable {fc : Int32} {K V M U F I C : Nat → Int32}
theorem xm_room {post : Int32 → SX → Prop} {p n : Nat} (hp : p < 3) (hn : n ≤ 60) (hg : ∀ q, q < 141 → K q = 2 → ∃ s, s < 60 ∧ V q = nI s) (h1 : ∀ fc' K' V' U' F' I', ph_xm p n K V U K' V' U' → ph_ct U' (20 * p) 20 + n ≤ 20 → post 1 (fc', K', V', M, U', F', I', C)) (h0 : ∀ fc' K' V' U' F' I', ph_xm p n K V U K' V' U' → ¬ ph_ct U' (20 * p) 20 + n ≤ 20 → post 0 (fc', K', V', M, U', F', I', C)) : wpX_makeRoom post (fc, K, V, M, U, F, I, C) (nI p) (nI n) := by
  have H : ∀ fc' K' V' U' F' I', ph_xm p n K V U K' V' U' → wX_makeRoom_17 post (nI p) (nI n) fc' K' V' M U' F' I' C := by
    intro fc' K' V' U' F' I' hm
    have hc : ph_ct U' (20 * p) 20 ≤ 60 := by have := ph_ct_le U' (20 * p) 20; omega
    unfold wX_makeRoom_17
    refine xm_count hp ?_
    by_cases z : ph_ct U' (20 * p) 20 + n ≤ 20
    · exact br_f (Int32.not_lt.mpr ((ph_room hc hn).mpr z)) (h1 _ _ _ _ _ _ hm z)
    · exact br_t (Int32.not_le.mp (fun w => z ((ph_room hc hn).mp w))) (h0 _ _ _ _ _ _ hm z)
  have hc : ph_ct U (20 * p) 20 ≤ 60 := by have := ph_ct_le U (20 * p) 20; omega
  unfold wpX_makeRoom
  dsimp only
  refine xm_count hp ?_
  by_cases z : ph_ct U (20 * p) 20 + n ≤ 20
  · exact br_t ((ph_room hc hn).mpr z) (H _ _ _ _ _ _ (Or.inl ⟨z, rfl, rfl, rfl⟩))
  · refine br_f (fun w => z ((ph_room hc hn).mp w)) ?_
    refine xm_clean hp hg (fun fc' K' V' U' F' I' hx => ?_)
    exact H _ _ _ _ _ _ (Or.inr ⟨z, hx⟩)
theorem xm_stc24 {post : SX → Prop} {a q : Nat} {y : Int32} (ha : a < 141) (hq : q < 141) (h : post (fc, upd K a (K q), upd V a y, M, U, F, I, C)) : wX_setToCopy_24 post (nI a) (nI q) y fc K V M U F I C := by
  unfold wX_setToCopy_24
  refine ⟨vp_in_nI hq (by decide), ?_⟩
  rw [nI_clamp (by omega)]
  exact xm_set ha h
theorem xm_stc {post : SX → Prop} {a q : Nat} (ha : a < 141) (hq : q < 141) (hg : K q = 2 → ∃ s, s < 60 ∧ V q = nI s) (h : post (fc, upd K a (K q), upd V a (ph_cv K V C q), M, U, F, I, C)) : wpX_setToCopy post (fc, K, V, M, U, F, I, C) (nI a) (nI q) := by
  have iq : vp_in (nI q) 141 := vp_in_nI hq (by decide)
  unfold wpX_setToCopy
  dsimp only
  refine ⟨iq, ?_⟩
  rw [nI_clamp (n := q) (by omega)]
  refine nm_e ⟨iq, ?_⟩
  by_cases k2 : K q = 2
  · obtain ⟨s, hs, hv⟩ := hg k2
    refine br_t k2 ⟨by rw [hv]; exact vp_in_nI hs (by decide), nm_r (e' := ph_cv K V C q) ?_ (xm_stc24 ha hq h)⟩
    unfold ph_cv
    rw [if_pos k2]
  · refine br_f k2 ?_
    rw [ph_cvn k2] at h
    exact xm_stc24 ha hq h
theorem xm_copy {post : SX → Prop} {to n : Nat} (hto : to < 3) (hl : ph_li I F n) (hroom : ph_ct U (20 * to) 20 + n ≤ 20) (hg : ∀ q, q < 141 → K q = 2 → ∃ s, s < 60 ∧ V q = nI s) (hus : ∀ s, s < 60 → ¬ I s = 0 → ¬ U s = 0) (h : ∀ C' U' K' V', ph_al U to (fun s => ¬ I s = 0) C' U' → ph_cp K V C' (fun s => ¬ I s = 0) K' V' → post (nI n, K', V', M, U', F, I, C')) : wpX_copyFound post (nI n, K, V, M, U, F, I, C) (nI to) := by
  have n60 := ph_li_60 hl
  have full : ∀ s, s < 60 → ((∃ j, j < n ∧ F j = nI s) ↔ ¬ I s = 0) := by
    intro s hs
    refine ⟨fun ⟨j, hj, e⟩ => ?_, fun z => hl.2.2.2 s hs z⟩
    obtain ⟨s', hs', e', z⟩ := hl.2.1 j hj
    have : s' = s := ph_inj (by omega) (by omega) (e'.symm.trans e)
    rw [← this]
    exact z
  have H2 : ∀ x i K' V' C' U', i ≤ n → n - i < x → ph_al U to (fun s => ¬ I s = 0) C' U' → ph_cp K V C' (fun s => ∃ j, j < i ∧ F j = nI s) K' V' → wX_copyFound_40 post x (nI i) (nI n) K' V' M U' F I C' := by
    intro x
    induction x with
    | zero => intro i _ _ _ _ _ h; omega
    | succ x ih =>
      intro i K' V' C' U' hi hx hal hcp
      have fin : n ≤ i → post (nI n, K', V', M, U', F, I, C') := by
        intro w
        have e : i = n := by omega
        subst e
        exact h C' U' K' V' hal (ph_cp_cg full hcp)
      refine pk_le 60 i (fun hle => fin (by omega)) (fun hlt => pk_le n i (fun hle => fin hle) (fun hlt' => ⟨vp_in_nI hlt (by decide), ?_⟩))
      obtain ⟨s, hs, hF, hI⟩ := hl.2.1 i hlt'
      obtain ⟨a, ha, hap, hCa, hUa⟩ := hal.1 s hs hI
      have sep : ∀ s' a', s' < 60 → a' < 60 → (∃ j, j < i ∧ F j = nI s') → C' s' = nI a' → a' ≠ s := by
        intro s' a' hs' ha' d e z
        have hI' : ¬ I s' = 0 := (full s' hs').mp (by obtain ⟨j, hj, w⟩ := d; exact ⟨j, by omega, w⟩)
        obtain ⟨a2, _, _, e2, u2⟩ := hal.1 s' hs' hI'
        have : a2 = a' := ph_inj (by omega) (by omega) (e2.symm.trans e)
        rw [this, z] at u2
        exact hus s hs hI u2
      have k0 := ph_cp_k hcp (b := 0) hs (by omega) sep
      have k1 := ph_cp_k hcp (b := 1) hs (by omega) sep
      rw [nI_clamp (n := i) (by omega), hF]
      refine xm_head ⟨vp_in_nI hlt (by decide), vp_in_nI hs (by decide), ?_⟩
      rw [nI_clamp (n := s) (by omega), hCa]
      refine xm_head ?_
      rw [nI_1 (21 + 2 * a), nI_1 (21 + 2 * s)]
      refine xm_stc (by omega) (by omega) (fun z => ?_) ?_
      · obtain ⟨t, ht, e⟩ := hg (21 + 2 * s) (by omega) (k0.1.symm.trans z)
        exact ⟨t, ht, k0.2.trans e⟩
      · have e1 : upd K' (21 + 2 * a) (K' (21 + 2 * s)) (21 + 2 * s + 1) = K (21 + 2 * s + 1) := (pk_un (by omega)).trans k1.1
        have e2 : ∀ y, upd V' (21 + 2 * a) y (21 + 2 * s + 1) = V (21 + 2 * s + 1) := fun y => (pk_un (by omega)).trans k1.2
        refine xm_stc (by omega) (by omega) (fun z => ?_) ?_
        · obtain ⟨t, ht, e⟩ := hg (21 + 2 * s + 1) (by omega) (e1.symm.trans z)
          exact ⟨t, ht, (e2 _).trans e⟩
        · refine nm_r (nI_1 i) ?_
          rw [ph_cv_cg ⟨e1, e2 _⟩, e1, ph_cv_cg (K := K) (V := V) (K' := K') (V' := V') (q := 21 + 2 * s) k0, show K' (21 + 2 * s) = K (21 + 2 * s) from k0.1]
          refine ih (i + 1) _ _ _ _ (by omega) (by omega) hal (ph_cp_s hcp hs ha hCa (fun s' hs' d e => ?_) (fun s' hs' => ?_))
          · obtain ⟨j, hj, w⟩ := d
            have hI' : ¬ I s' = 0 := (full s' hs').mp ⟨j, by omega, w⟩
            have : s' = s := hal.2.1 s' s hs' hs hI' hI (e.trans hCa.symm)
            rw [this] at w
            have := hl.2.2.1 j i (by omega) hlt' (w.trans hF.symm)
            omega
          · constructor
            · intro ⟨j, hj, w⟩
              by_cases ej : j = i
              · rw [ej] at w
                exact Or.inr (ph_inj (by omega) (by omega) (w.symm.trans hF))
              · exact Or.inl ⟨j, by omega, w⟩
            · intro z
              rcases z with ⟨j, hj, w⟩ | z
              · exact ⟨j, by omega, w⟩
              · exact ⟨i, by omega, by rw [z]; exact hF⟩
  have H1 : ∀ x i C' U', i ≤ n → n - i < x → ph_al U to (fun s => ∃ j, j < i ∧ F j = nI s) C' U' → ph_ct U' (20 * to) 20 + (n - i) ≤ 20 → wX_copyFound_2 post (nI to) x (nI i) (nI n) K V M U' F I C' := by
    intro x
    induction x with
    | zero => intro i _ _ _ h; omega
    | succ x ih =>
      intro i C' U' hi hx hal hct
      have fin : n ≤ i → ∃ n40, wX_copyFound_40 post n40 0 (nI n) K V M U' F I C' := by
        intro w
        have e : i = n := by omega
        subst e
        exact ⟨i + 1, H2 (i + 1) 0 K V C' U' (by omega) (by omega) (ph_al_cg full hal) (ph_cp_0 (fun s hs ⟨j, hj, _⟩ => absurd hj (by omega)))⟩
      refine pk_le 60 i (fun hle => fin (by omega)) (fun hlt => pk_le n i (fun hle => fin hle) (fun hlt' => ⟨vp_in_nI hlt (by decide), ?_⟩))
      obtain ⟨s, hs, hF, hI⟩ := hl.2.1 i hlt'
      rw [nI_clamp (n := i) (by omega), hF]
      refine xm_take hto (by omega) (fun a h1 h2 h3 => ⟨vp_in_nI hs (by decide), ?_⟩)
      rw [nI_clamp (n := s) (by omega)]
      refine nm_e (nm_r (nI_1 i) (ih (i + 1) _ _ (by omega) (by omega) (ph_al_s hal hs ?_ (by omega) (by omega) h3 (by decide) (fun s' hs' => ?_)) ?_))
      · intro ⟨j, hj, w⟩
        have := hl.2.2.1 j i (by omega) hlt' (w.trans hF.symm)
        omega
      · constructor
        · intro ⟨j, hj, w⟩
          by_cases ej : j = i
          · rw [ej] at w
            exact Or.inr (ph_inj (by omega) (by omega) (w.symm.trans hF))
          · exact Or.inl ⟨j, by omega, w⟩
        · intro z
          rcases z with ⟨j, hj, w⟩ | z
          · exact ⟨j, by omega, w⟩
          · exact ⟨i, by omega, by rw [z]; exact hF⟩
      · rw [ph_ct_set (by decide) h3 20 h1 h2]
        omega
  exact ⟨n + 1, H1 (n + 1) 0 C U (by omega) (by omega) (ph_al_0 (fun s hs ⟨j, hj, _⟩ => absurd hj (by omega))) (by omega)⟩
def ph_sh (K : Nat → Int32) (a : Nat) : Nat → Int32 := upd (upd (upd K a (K (a + 1))) (a + 1) (K (a + 1 + 1))) (a + 1 + 1) 0
theorem xm_drop {post : SX → Prop} {p : Nat} (hp : p < 3) (h : post (fc, ph_sh K (7 * p + 4), ph_sh V (7 * p + 4), upd M p (M p - 1), U, F, I, C)) : wpX_dropOldestMail post (fc, K, V, M, U, F, I, C) (nI p) := by
  have e2 : ∀ (f : Nat → Int32) y, upd f (7 * p + 4) y (7 * p + 4 + 1 + 1) = f (7 * p + 4 + 1 + 1) := fun f y => pk_un (by omega)
  have e3 : nI (7 * p + 4) + 3 - 1 = nI (7 * p + 4 + 1 + 1) := by
    rw [show (3 : Int32) = nI 3 from rfl, nI_add, show 7 * p + 4 + 3 = 7 * p + 4 + 1 + 1 + 1 by omega, nI_pred]
  unfold wpX_dropOldestMail
  dsimp only
  refine xm_mailc (j := 0) ?_
  refine nm_r e3 ⟨3, ?_⟩
  refine pk_le (7 * p + 4 + 1 + 1) (7 * p + 4) (fun z => absurd z (by omega)) (fun _ => ?_)
  rw [nI_1 (7 * p + 4), nI_clamp (n := 7 * p + 4 + 1) (by omega)]
  refine ⟨vp_in_nI (by omega) (by decide), vp_in_nI (by omega) (by decide), xm_set (by omega) ?_⟩
  refine nm_e ?_
  refine pk_le (7 * p + 4 + 1 + 1) (7 * p + 4 + 1) (fun z => absurd z (by omega)) (fun _ => ?_)
  rw [nI_1 (7 * p + 4 + 1), nI_clamp (n := 7 * p + 4 + 1 + 1) (by omega), e2, e2]
  refine ⟨vp_in_nI (by omega) (by decide), vp_in_nI (by omega) (by decide), xm_set (by omega) ?_⟩
  refine nm_e ?_
  refine pk_le (7 * p + 4 + 1 + 1) (7 * p + 4 + 1 + 1) (fun _ => ?_) (fun z => absurd z (by omega))
  refine xm_set (by omega) ?_
  refine ⟨vp_in_nI hp (by decide), vp_in_nI hp (by decide), ?_⟩
  rw [nI_clamp (n := p) (by omega)]
  exact nm_e h
theorem ph_sh_j {p j : Nat} (hj : j < 2) : ph_sh K (7 * p + 4) (7 * p + 4 + j) = K (7 * p + 4 + (j + 1)) := by
  unfold ph_sh
  rw [pk_un (by omega)]
  by_cases e : j = 0
  · subst e
    rw [pk_un (by omega)]
    exact pk_us
  · have e : j = 1 := by omega
    subst e
    exact pk_us
theorem ph_sh_2 {p : Nat} : ph_sh K (7 * p + 4) (7 * p + 4 + 2) = 0 := pk_us
theorem ph_sh_n {p q : Nat} (hq : ∀ j, j < 3 → q ≠ 7 * p + 4 + j) : ph_sh K (7 * p + 4) q = K q := by
  have h0 := hq 0 (by omega)
  have h1 := hq 1 (by omega)
  have h2 := hq 2 (by omega)
  unfold ph_sh
  rw [pk_un (by omega), pk_un (by omega), pk_un (by omega)]
end
end
section
/-! Y's methods of its own -/
def ph_01 (u : Nat → Int32) : Prop := ∀ t, t < 60 → u t = 0 ∨ u t = 1
theorem ph_01_u {u : Nat → Int32} {s : Nat} {x : Int32} (h : ph_01 u) (hx : x = 0 ∨ x = 1) : ph_01 (upd u s x) := by
  intro t ht
  by_cases e : t = s
  · rw [e, pk_us]
    exact hx
  · rw [pk_un e]
    exact h t ht
theorem ph_nb {x : Int32} (h : x = 0 ∨ x = 1) : narrow .boolean (.int x) = .int x := by
  rcases h with h | h
  · subst h; rfl
  · subst h; rfl
theorem ph_lf_cg {K V : Nat → Int32} {R R' S : Nat → Prop} (hR : ∀ t, t < 60 → (R t ↔ R' t)) (h : ph_lf K V R S) : ph_lf K V R' S :=
  ⟨fun t ht z => h.1 t ht ((hR t ht).mpr z), h.2.1, fun S' h' hc => h.2.2 S' (fun t ht z => h' t ht ((hR t ht).mp z)) hc⟩
theorem ym_bad1 {post : Int32 → Prop} {p r : Nat} (hp : p < 3) (hr : r < 4) (h : post 0) : wpY_bad post (nI p) (nI r) :=
  br_f (nI_pos (by omega)) (br_f (nI_nlt (a := 2) (b := p) (by omega) (by decide)) (br_f (nI_pos (by omega)) (br_t (nI_le (a := r) (b := 3) (by omega) (by decide)) h)))
theorem ym_bad0 {post : Int32 → Prop} {x y : Int32} (h0 : ¬ ∃ p r, p < 3 ∧ r < 4 ∧ x = nI p ∧ y = nI r) (h : post 1) : wpY_bad post x y := by
  unfold wpY_bad
  by_cases h1 : x < 0
  · exact br_t h1 h
  · refine br_f h1 ?_
    by_cases h2 : 2 < x
    · exact br_t h2 h
    · refine br_f h2 ?_
      by_cases h3 : y < 0
      · exact br_t h3 h
      · refine br_f h3 ?_
        by_cases h4 : y ≤ 3
        · obtain ⟨p, hp, e⟩ := nI_of2 (M := 2) (n := 2) (by decide) h1 (Int32.not_lt.mp h2)
          obtain ⟨r, hr, e'⟩ := nI_of2 (M := 3) (n := 3) (by decide) h3 h4
          exact absurd ⟨p, r, by omega, by omega, e, e'⟩ h0
        · exact br_f h4 h
theorem ym_badp1 {post : Int32 → Prop} {p : Nat} (hp : p < 3) (h : post 0) : wpY_bad post (nI p) 0 := ym_bad1 (r := 0) hp (by omega) h
theorem ym_badp0 {post : Int32 → Prop} {x : Int32} (hx : ∀ p, p < 3 → x ≠ nI p) (h : post 1) : wpY_bad post x 0 := ym_bad0 (fun ⟨p, _, hp, _, e, _⟩ => hx p hp e) h
theorem ym_e4 (p r : Nat) : 4 * nI p + nI r = nI (4 * p + r) := by
  rw [show (4 : Int32) = nI 4 from rfl, pk_mul, nI_add]
theorem ym_e20 (p : Nat) : 20 * nI p = nI (20 * p) := by
  rw [show (20 : Int32) = nI 20 from rfl, pk_mul]
theorem ym_e2020 (p : Nat) : nI (20 * p) + 20 = nI (20 * p + 20) := nI_add (20 * p) 20
theorem ym_e22 (s : Nat) : 22 + 2 * nI s = nI (21 + 2 * s + 1) := by
  rw [show (22 : Int32) = nI 22 from rfl, show (2 : Int32) = nI 2 from rfl, pk_mul, nI_add, show 22 + 2 * s = 21 + 2 * s + 1 by omega]
section
variable {k c m u R D : Nat → Int32}
theorem ym_set {post : SY → Prop} {q : Nat} {a b : Int32} (hq : q < 141) (h : post (upd k q a, upd c q b, m, u, R, D)) : wpY_set post (k, c, m, u, R, D) (nI q) a b := by
  have e : (nI q).toNatClampNeg = q := nI_clamp (by omega)
  unfold wpY_set
  dsimp only
  refine ⟨vp_in_nI hq (by decide), fun y1 e1 => ⟨vp_in_nI hq (by decide), fun y2 e2 => ?_⟩⟩
  rw [e] at e1 e2
  rw [e1, e2]
  exact h
theorem ym_take {post : SY → Prop} {q a : Nat} (hq : q < 141) (ha : a < 141) (h : post (upd k a (k q), upd c a (c q), m, u, R, D)) : wpY_take post (k, c, m, u, R, D) (nI a) (nI q) := by
  unfold wpY_take
  dsimp only
  rw [nI_clamp (n := q) (by omega)]
  exact ⟨vp_in_nI hq (by decide), vp_in_nI hq (by decide), ym_set ha h⟩
theorem ym_there {post : Int32 → Prop} {N : Nat → Nat} {y : Nat} (hy : y < 141) (hm : ∀ p, p < 3 → N p ≤ 3 ∧ m p = nI (N p)) (h01 : ph_01 u) (h1 : ph_th u N y → ∀ r, ¬ r = 0 → post r) (h0 : ¬ ph_th u N y → post 0) : wpY_there post (k, c, m, u, R, D) (nI y) := by
  unfold wpY_there
  dsimp only
  refine pk_le 12 y (fun h12 => pk_le 21 y (fun h21 => ?_) (fun h21 => ?_)) (fun h12 => h1 (Or.inl h12) 1 (by decide))
  · have e : (nI y - 21) / 2 = nI ((y - 21) / 2) := by
      rw [show (21 : Int32) = nI 21 from rfl, show (2 : Int32) = nI 2 from rfl, pk_sub h21, pk_div (by omega) (by omega) (by omega)]
    rw [e, nI_clamp (by omega)]
    refine ⟨by decide, vp_in_nI (by omega) (by decide), ph_nb (h01 _ (by omega)), ?_⟩
    by_cases z : u ((y - 21) / 2) = 0
    · rw [z]
      refine h0 (fun w => ?_)
      rcases w with w | w | w
      · omega
      · omega
      · exact w.2 z
    · exact h1 (Or.inr (Or.inr ⟨h21, z⟩)) _ z
  · have e : (nI y - 12) / 3 = nI ((y - 12) / 3) := by
      rw [show (12 : Int32) = nI 12 from rfl, show (3 : Int32) = nI 3 from rfl, pk_sub h12, pk_div (by omega) (by omega) (by omega)]
    have e2 : nI y - 12 - nI ((y - 12) / 3) * 3 = nI ((y - 12) % 3) := by
      rw [show (12 : Int32) = nI 12 from rfl, show (3 : Int32) = nI 3 from rfl, pk_sub h12, pk_mul, pk_sub (by omega)]
      exact congrArg nI (by omega)
    obtain ⟨n3, em⟩ := hm ((y - 12) / 3) (by omega)
    rw [e, e2, nI_clamp (by omega), em]
    refine ⟨by decide, by decide, vp_in_nI (by omega) (by decide), pk_le _ _ (fun w => h0 (fun t => ?_)) (fun w => h1 (Or.inr (Or.inl ⟨h12, h21, w⟩)) 1 (by decide))⟩
    rcases t with t | t | t
    · omega
    · have := t.2.2
      omega
    · omega
theorem ym_held {post : Int32 → Prop} {N : Nat → Nat} {x w : Int32} (hm : ∀ p, p < 3 → N p ≤ 3 ∧ m p = nI (N p)) (h01 : ph_01 u) (h1 : (∃ y, y < 141 ∧ nI y ≠ w ∧ k y = 3 ∧ c y = x ∧ ph_th u N y) → post 1) (h0 : (¬ ∃ y, y < 141 ∧ nI y ≠ w ∧ k y = 3 ∧ c y = x ∧ ph_th u N y) → post 0) : wpY_held post (k, c, m, u, R, D) x w := by
  have H : ∀ n i, i ≤ 141 → 141 - i < n → (∀ y, y < i → ¬ (nI y ≠ w ∧ k y = 3 ∧ c y = x ∧ ph_th u N y)) → wY_held_2 post x w k c m u R D n (nI i) := by
    intro n
    induction n with
    | zero => intro i _ h; omega
    | succ n ih =>
      intro i hi hn hq
      refine pk_le 141 i (fun hle => h0 (fun ⟨q, hq', z⟩ => hq q (by omega) z)) (fun hlt => ?_)
      have nx : ¬ (nI i ≠ w ∧ k i = 3 ∧ c i = x ∧ ph_th u N i) → wY_held_2 post x w k c m u R D n (nI (i + 1)) := fun z => ih (i + 1) (by omega) (by omega) (lt_s hq z)
      by_cases ew : nI i = w
      · exact br_t ew (nm_r (nI_1 i) (nx (fun z => z.1 ew)))
      · refine br_f ew ⟨vp_in_nI hlt (by decide), ?_⟩
        rw [nI_clamp (by omega)]
        by_cases k3 : k i = 3
        · refine br_t k3 ⟨vp_in_nI hlt (by decide), ?_⟩
          by_cases v : c i = x
          · refine br_t v (ym_there hlt hm h01 (fun t r hr => ?_) (fun t => ?_))
            · exact br_f hr (h1 ⟨i, hlt, ew, k3, v, t⟩)
            · exact br_t rfl (nm_r (nI_1 i) (nx (fun z => t z.2.2.2)))
          · exact br_f v (nm_r (nI_1 i) (nx (fun z => v z.2.2.1)))
        · exact br_f k3 (nm_r (nI_1 i) (nx (fun z => k3 z.2.1)))
  exact ⟨142, H 142 0 (by omega) (by omega) lt_0⟩
theorem ym_count {post : Int32 → Prop} {p : Nat} (hp : p < 3) (h : post (nI (ph_ct u (20 * p) 20))) : wpY_count post (k, c, m, u, R, D) (nI p) := by
  have H : ∀ n i, i ≤ 20 → 20 - i < n → wY_count_7 post (nI p) k c m u R D n (nI (ph_ct u (20 * p) i)) (nI (20 * p + i)) := by
    intro n
    induction n with
    | zero => intro i _ h; omega
    | succ n ih =>
      intro i hi hn
      refine pk_le (20 * p + 20) (20 * p + i) (fun hle => ?_) (fun hlt => ⟨vp_in_nI (by omega) (by decide), ?_⟩) (hx := by rw [ym_e20, ym_e2020])
      · have e : i = 20 := by omega
        subst e
        exact h
      · rw [nI_clamp (by omega)]
        by_cases z : u (20 * p + i) = 0
        · refine br_t z (nm_r (nI_1 _) ?_)
          have := ih (i + 1) (by omega) (by omega)
          rw [ph_ct_s0 z] at this
          exact this
        · refine br_f z (nm_r (nI_1 _) (nm_r (nI_1 _) ?_))
          have := ih (i + 1) (by omega) (by omega)
          rw [ph_ct_s1 z] at this
          exact this
  unfold wpY_count
  dsimp only
  exact nm_r (ym_e20 p) ⟨21, H 21 0 (by omega) (by omega)⟩
theorem ym_unused {post : Int32 → Prop} {p : Nat} (hp : p < 3) (hex : ph_ct u (20 * p) 20 < 20) (h : ∀ s, 20 * p ≤ s → s < 20 * p + 20 → u s = 0 → post (nI s)) : wpY_unused post (k, c, m, u, R, D) (nI p) := by
  have H : ∀ n i, i ≤ 20 → 20 - i < n → (∀ j, j < i → ¬ u (20 * p + j) = 0) → wY_unused_5 post (nI p) k c m u R D n (nI (20 * p + i)) := by
    intro n
    induction n with
    | zero => intro i _ h; omega
    | succ n ih =>
      intro i hi hn hu
      refine pk_le (20 * p + 20) (20 * p + i) (fun hle => ?_) (fun hlt => ⟨vp_in_nI (by omega) (by decide), ?_⟩) (hx := by rw [ym_e20, ym_e2020])
      · obtain ⟨s, h1, h2, h3⟩ := ph_ct_ex hex
        have := hu (s - 20 * p) (by omega)
        rw [show 20 * p + (s - 20 * p) = s by omega] at this
        exact absurd h3 this
      · rw [nI_clamp (by omega)]
        by_cases z : u (20 * p + i) = 0
        · exact br_t z (h _ (by omega) (by omega) z)
        · exact br_f z (nm_r (nI_1 _) (ih (i + 1) (by omega) (by omega) (lt_s hu z)))
  unfold wpY_unused
  dsimp only
  exact nm_r (ym_e20 p) ⟨21, H 21 0 (by omega) (by omega) lt_0⟩
theorem ym_found {post : Int32 → Prop} (h : post (nI (ph_ct R 0 60))) : wpY_found post (k, c, m, u, R, D) := by
  have H : ∀ n i, i ≤ 60 → 60 - i < n → wY_found_4 post k c m u R D n (nI (ph_ct R 0 i)) (nI i) := by
    intro n
    induction n with
    | zero => intro i _ h; omega
    | succ n ih =>
      intro i hi hn
      refine pk_le 60 i (fun hle => ?_) (fun hlt => ⟨vp_in_nI hlt (by decide), ?_⟩)
      · have e : i = 60 := by omega
        subst e
        exact h
      · rw [nI_clamp (by omega)]
        have := ih (i + 1) (by omega) (by omega)
        by_cases z : R i = 0
        · refine br_t z (nm_r (nI_1 _) ?_)
          rw [ph_ct_s0 (by rw [Nat.zero_add]; exact z)] at this
          exact this
        · refine br_f z (nm_r (nI_1 _) (nm_r (nI_1 _) ?_))
          rw [ph_ct_s1 (by rw [Nat.zero_add]; exact z)] at this
          exact this
  exact ⟨61, H 61 0 (by omega) (by omega)⟩
theorem ym_spread {post : SY → Prop} {G : Nat → Prop} (hRG : ∀ t, t < 60 → ¬ R t = 0 → G t) (hG : ∀ t b, t < 60 → b < 2 → G t → k (21 + 2 * t + b) = 2 → ∃ t', t' < 60 ∧ c (21 + 2 * t + b) = nI t' ∧ G t') (h : ∀ R', ph_lf k c (fun t => ¬ R t = 0) (fun t => ¬ R' t = 0) → post (k, c, m, u, R', D)) : wpY_spread post (k, c, m, u, R, D) := by
  have hGc : ph_cl k c G := by
    intro s b t hs hb ht g ho
    obtain ⟨t', ht', e, g'⟩ := hG s b hs hb g ho.1
    have : t' = t := ph_inj (by omega) (by omega) (e.symm.trans ho.2)
    rw [← this]
    exact g'
  have H2 : ∀ (J : Int32 → Int32 → (Nat → Int32) → (Nat → Int32) → (Nat → Int32) → (Nat → Int32) → (Nat → Int32) → (Nat → Int32) → Prop) (r : Nat), (∀ mo R', ph_ro k c (fun t => ¬ R t = 0) (r + 1) mo R' → J mo (nI (r + 1)) k c m u R' D) → ∀ x P mo R', 21 ≤ P → P ≤ 141 → 141 - P < x → ph_ri k c (fun t => ¬ R t = 0) r P mo R' → wY_spread_19 post J (nI r) x mo (nI P) k c m u R' D := by
    intro J r hJ x
    induction x with
    | zero => intro P _ _ _ _ h; omega
    | succ x ih =>
      intro P mo R' hP hP2 hx hri
      refine pk_le 141 P (fun hle => ?_) (fun hlt => ⟨by decide, ?_⟩)
      · have e : P = 141 := by omega
        subst e
        exact nm_r (nI_1 r) (hJ mo R' (ph_ri_e hri))
      · have iP : vp_in (nI P) 141 := vp_in_nI hlt (by decide)
        have e : (nI P - 21) / 2 = nI ((P - 21) / 2) := by
          rw [show (21 : Int32) = nI 21 from rfl, show (2 : Int32) = nI 2 from rfl, pk_sub hP, pk_div (by omega) (by omega) (by omega)]
        rw [e]
        refine ⟨vp_in_nI (by omega) (by decide), ?_⟩
        rw [nI_clamp (n := (P - 21) / 2) (by omega), nI_clamp (n := P) (by omega)]
        by_cases z : R' ((P - 21) / 2) = 0
        · exact br_t z (nm_r (nI_1 P) (ih (P + 1) mo R' (by omega) (by omega) (by omega) (ph_ri_n hri (fun _ _ w => absurd z w))))
        · refine br_f z ⟨iP, ?_⟩
          by_cases k2 : k P = 2
          · have eP : 21 + 2 * ((P - 21) / 2) + (P - 21) % 2 = P := by omega
            have gs : G ((P - 21) / 2) := hri.1.2 G hRG hGc _ (by omega) z
            obtain ⟨t, ht, ec, gt⟩ := hG ((P - 21) / 2) ((P - 21) % 2) (by omega) (by omega) gs (by rw [eP]; exact k2)
            rw [eP] at ec
            rw [ec]
            refine br_t k2 ⟨iP, vp_in_nI ht (by decide), ?_⟩
            rw [nI_clamp (n := t) (by omega), xm_n1]
            by_cases w : R' t = 0
            · refine br_t w ⟨iP, vp_in_nI ht (by decide), nm_e (nm_r (nI_1 P) ?_)⟩
              exact ih (P + 1) 1 _ (by omega) (by omega) (by omega) (ph_ri_s hri hP hlt ht z ⟨k2, ec⟩ w (by decide) (by decide))
            · refine br_f w (nm_r (nI_1 P) ?_)
              refine ih (P + 1) mo R' (by omega) (by omega) (by omega) (ph_ri_n hri (fun t' ht' _ ho => ?_))
              have : t' = t := ph_inj (by omega) (by omega) (ho.2.symm.trans ec)
              rw [this]
              exact w
          · exact br_f k2 (nm_r (nI_1 P) (ih (P + 1) mo R' (by omega) (by omega) (by omega) (ph_ri_n hri (fun _ _ _ ho => absurd ho.1 k2))))
  have H1 : ∀ x r mo R', r ≤ 60 → 60 - r < x → ph_ro k c (fun t => ¬ R t = 0) r mo R' → wY_spread_4 post x mo (nI r) k c m u R' D := by
    intro x
    induction x with
    | zero => intro r _ _ _ h; omega
    | succ x ih =>
      intro r mo R' hr hx hro
      refine pk_le 60 r (fun hle => h R' (ph_ro_e hro (Or.inr hle))) (fun hlt => ?_)
      by_cases z : mo = 0
      · exact br_t z (h R' (ph_ro_e hro (Or.inl z)))
      · refine br_f z ⟨121, ?_⟩
        exact H2 (wY_spread_4 post x) r (fun mo' R2 h2 => ih (r + 1) mo' R2 (by omega) (by omega) h2) 121 21 0 R' (by omega) (by omega) (by omega) (ph_ri_0 hro z)
  exact ⟨61, H1 61 0 1 R (by omega) (by omega) ⟨ph_sp_0, fun _ => Nat.zero_le _, fun z => absurd z (by decide)⟩⟩
theorem ym_clean {post : SY → Prop} {N : Nat → Nat} {p : Nat} (hp : p < 3) (hm : ∀ p, p < 3 → N p ≤ 3 ∧ m p = nI (N p)) (h01 : ph_01 u) (hgy : ∀ y, y < 141 → ph_th u N y → k y = 2 → ∃ t, t < 60 ∧ c y = nI t ∧ ¬ u t = 0) (h : ∀ u' R', ph_01 u' → ph_yc p k c u N u' → post (k, c, m, u', R', D)) : wpY_clean post (k, c, m, u, R, D) (nI p) := by
  have H3 : ∀ x i u' R', ph_lf k c (ph_yr p k c u N) (fun t => ¬ R' t = 0) → i ≤ 20 → 20 - i < x → ph_01 u' → ph_yu p R' u i u' → wY_clean_98 post (nI p) x (nI (20 * p + i)) k c m u' R' D := by
    intro x
    induction x with
    | zero => intro i _ _ _ _ h; omega
    | succ x ih =>
      intro i u' R' hf hi hx hu hyu
      refine pk_le (20 * p + 20) (20 * p + i) (fun hle => ?_) (fun hlt => ⟨vp_in_nI (by omega) (by decide), ?_⟩) (hx := by rw [ym_e20, ym_e2020])
      · have e : i = 20 := by omega
        subst e
        exact h u' R' hu (ph_yu_e hyu hf)
      · have iv : vp_in (nI (20 * p + i)) 60 := vp_in_nI (by omega) (by decide)
        rw [nI_clamp (by omega), xm_n0, xm_n1]
        by_cases z : u' (20 * p + i) = 0
        · refine br_t z ⟨iv, nm_e (nm_r (nI_1 _) ?_)⟩
          exact ih (i + 1) _ R' hf (by omega) (by omega) (ph_01_u hu (Or.inl rfl)) (ph_yu_s hyu (by omega) ⟨fun w => absurd rfl w, fun w => absurd z w.1⟩)
        · refine br_f z ⟨iv, ?_⟩
          by_cases w : R' (20 * p + i) = 0
          · refine br_t w ⟨iv, nm_e (nm_r (nI_1 _) ?_)⟩
            exact ih (i + 1) _ R' hf (by omega) (by omega) (ph_01_u hu (Or.inl rfl)) (ph_yu_s hyu (by omega) ⟨fun y => absurd rfl y, fun y => absurd w y.2⟩)
          · refine br_f w ⟨iv, nm_e (nm_r (nI_1 _) ?_)⟩
            exact ih (i + 1) _ R' hf (by omega) (by omega) (ph_01_u hu (Or.inr rfl)) (ph_yu_s hyu (by omega) ⟨fun _ => ⟨z, w⟩, fun _ => by decide⟩)
  have H2 : ∀ x y R', y ≤ 21 → 21 - y < x → ph_yk p k c u N y R' → wY_clean_23 post (nI p) x (nI y) k c m u R' D := by
    intro x
    induction x with
    | zero => intro y _ _ h; omega
    | succ x ih =>
      intro y R' hy hx hyk
      refine pk_le 21 y (fun hle => ?_) (fun hlt => ?_)
      · have e : y = 21 := by omega
        subst e
        refine ym_spread (G := fun t => ¬ u t = 0) ?_ ?_ (fun R2 hf => ?_)
        · intro t ht z
          obtain ⟨y', hy', _, hth, ho⟩ := (hyk t ht).mp z
          obtain ⟨t', ht', e', g⟩ := hgy y' (by omega) hth ho.1
          have : t' = t := ph_inj (by omega) (by omega) (e'.symm.trans ho.2)
          rw [← this]
          exact g
        · intro t b ht hb g k2
          have e : (21 + 2 * t + b - 21) / 2 = t := by omega
          exact hgy (21 + 2 * t + b) (by omega) (Or.inr (Or.inr ⟨by omega, by rw [e]; exact g⟩)) k2
        · exact nm_r (ym_e20 p) ⟨21, H3 21 0 u R2 (ph_lf_cg (fun t ht => hyk t ht) hf) (by omega) (by omega) h01 ph_yu_0⟩
      · have step : ∀ o, ph_yo y = o → wY_clean_47 post (wY_clean_23 post (nI p) x) (nI p) (nI y) (nI o) k c m u R' D := by
          intro o ho
          have iy : vp_in (nI y) 141 := vp_in_nI (by omega) (by decide)
          have o60 : o < 60 := by
            rw [← ho]
            unfold ph_yo
            split <;> omega
          have nx : ¬ (ph_yo y = p ∧ k y = 2 ∧ ph_th u N y) → wY_clean_23 post (nI p) x (nI (y + 1)) k c m u R' D := fun z => ih (y + 1) R' (by omega) (by omega) (ph_yk_n hyk z)
          refine pk_eq o p (fun e => ⟨iy, ?_⟩) (fun e => nm_r (nI_1 y) (nx (fun z => e (ho.symm.trans z.1))))
          rw [nI_clamp (n := y) (by omega)]
          by_cases k2 : k y = 2
          · refine br_t k2 (ym_there (by omega) hm h01 (fun t r hr => ?_) (fun t => ?_))
            · obtain ⟨s, hs, ec, _⟩ := hgy y (by omega) t k2
              rw [ec]
              refine br_f hr ⟨iy, vp_in_nI hs (by decide), ?_⟩
              rw [nI_clamp (n := s) (by omega), xm_n1]
              exact nm_e (nm_r (nI_1 y) (ih (y + 1) _ (by omega) (by omega) (ph_yk_s hyk (ho.trans e) k2 t hs ec (by decide))))
            · exact br_t rfl (nm_r (nI_1 y) (nx (fun z => t z.2.2)))
          · exact br_f k2 (nm_r (nI_1 y) (nx (fun z => k2 z.2.1)))
        refine pk_le 12 y (fun h12 => ⟨by decide, ?_⟩) (fun h12 => ⟨by decide, ?_⟩)
        · rw [show (nI y - 12) / 3 = nI ((y - 12) / 3) from by rw [show (12 : Int32) = nI 12 from rfl, show (3 : Int32) = nI 3 from rfl, pk_sub h12, pk_div (by omega) (by omega) (by omega)]]
          exact step _ (if_neg (by omega))
        · rw [show nI y / 4 = nI (y / 4) from by rw [show (4 : Int32) = nI 4 from rfl, pk_div (by omega) (by omega) (by omega)]]
          exact step _ (if_pos h12)
  have H1 : ∀ x i R', i ≤ 60 → 60 - i < x → (∀ s, s < i → R' s = 0) → wY_clean_2 post (nI p) x (nI i) k c m u R' D := by
    intro x
    induction x with
    | zero => intro i _ _ h; omega
    | succ x ih =>
      intro i R' hi hx hI
      refine pk_le 60 i (fun hle => ?_) (fun hlt => ⟨vp_in_nI hlt (by decide), ?_⟩)
      · exact ⟨22, H2 22 0 R' (by omega) (by omega) (ph_yk_0 (fun s hs => hI s (by omega)))⟩
      · rw [nI_clamp (by omega), xm_n0]
        refine nm_e (nm_r (nI_1 i) (ih (i + 1) (upd R' i 0) (by omega) (by omega) (fun s hs => ?_)))
        by_cases e : s = i
        · rw [e, pk_us]
        · rw [pk_un e]
          exact hI s (by omega)
  exact ⟨61, H1 61 0 R (by omega) (by omega) lt_0⟩
theorem ym_room {post : Int32 → SY → Prop} {N : Nat → Nat} {p n : Nat} (hp : p < 3) (hn : n ≤ 60) (hm : ∀ p, p < 3 → N p ≤ 3 ∧ m p = nI (N p)) (h01 : ph_01 u) (hgy : ∀ y, y < 141 → ph_th u N y → k y = 2 → ∃ t, t < 60 ∧ c y = nI t ∧ ¬ u t = 0) (h1 : ∀ u' R', ph_01 u' → ph_ym p n k c u N u' → ph_ct u' (20 * p) 20 + n ≤ 20 → post 1 (k, c, m, u', R', D)) (h0 : ∀ u' R', ph_01 u' → ph_ym p n k c u N u' → ¬ ph_ct u' (20 * p) 20 + n ≤ 20 → post 0 (k, c, m, u', R', D)) : wpY_room post (k, c, m, u, R, D) (nI p) (nI n) := by
  have H : ∀ u' R', ph_01 u' → ph_ym p n k c u N u' → wY_room_17 post (nI p) (nI n) k c m u' R' D := by
    intro u' R' h01' hm'
    have hc : ph_ct u' (20 * p) 20 ≤ 60 := by have := ph_ct_le u' (20 * p) 20; omega
    unfold wY_room_17
    refine ym_count hp ?_
    by_cases z : ph_ct u' (20 * p) 20 + n ≤ 20
    · exact br_f (Int32.not_lt.mpr ((ph_room hc hn).mpr z)) (h1 _ _ h01' hm' z)
    · exact br_t (Int32.not_le.mp (fun w => z ((ph_room hc hn).mp w))) (h0 _ _ h01' hm' z)
  have hc : ph_ct u (20 * p) 20 ≤ 60 := by have := ph_ct_le u (20 * p) 20; omega
  unfold wpY_room
  dsimp only
  refine ym_count hp ?_
  by_cases z : ph_ct u (20 * p) 20 + n ≤ 20
  · exact br_t ((ph_room hc hn).mpr z) (H _ _ h01 (Or.inl ⟨z, rfl⟩))
  · refine br_f (fun w => z ((ph_room hc hn).mp w)) ?_
    refine ym_clean hp hm h01 hgy (fun u' R' h01' hx => ?_)
    exact H _ _ h01' (Or.inr ⟨z, hx⟩)
theorem ym_copy1 {post : SY → Prop} {a q : Nat} (ha : a < 141) (hq : q < 141) (hg : k q = 2 → ∃ s, s < 60 ∧ c q = nI s) (h : post (upd k a (k q), upd c a (ph_cv k c D q), m, u, R, D)) : wpY_takeCopy post (k, c, m, u, R, D) (nI a) (nI q) := by
  have iq : vp_in (nI q) 141 := vp_in_nI hq (by decide)
  unfold wpY_takeCopy
  dsimp only
  refine ⟨iq, ?_⟩
  by_cases k2 : k q = 2
  · obtain ⟨s, hs, hv⟩ := hg k2
    rw [ph_cv2 k2 hv hs, k2] at h
    rw [nI_clamp (n := q) (by omega), hv, nI_clamp (n := s) (by omega)]
    exact br_t k2 ⟨iq, vp_in_nI hs (by decide), ym_set ha h⟩
  · rw [ph_cvn k2] at h
    refine br_f (by rw [nI_clamp (n := q) (by omega)]; exact k2) ?_
    exact ym_take hq ha h
theorem ym_mark {post : SY → Prop} {q : Nat} (hq : q < 141) (hk : k q = 2 → ∃ t, t < 60 ∧ c q = nI t ∧ ¬ u t = 0) (hgs : ∀ t b, t < 60 → b < 2 → ¬ u t = 0 → k (21 + 2 * t + b) = 2 → ∃ t', t' < 60 ∧ c (21 + 2 * t + b) = nI t' ∧ ¬ u t' = 0) (h : ∀ R', ph_lf k c (fun t => ph_ho k c q t) (fun t => ¬ R' t = 0) → post (k, c, m, u, R', D)) : wpY_mark post (k, c, m, u, R, D) (nI q) := by
  have iq : vp_in (nI q) 141 := vp_in_nI hq (by decide)
  have H : ∀ x i R', i ≤ 60 → 60 - i < x → (∀ t, t < i → (¬ R' t = 0 ↔ ph_ho k c q t)) → wY_mark_2 post (nI q) x (nI i) k c m u R' D := by
    intro x
    induction x with
    | zero => intro i _ _ h; omega
    | succ x ih =>
      intro i R' hi hx hR
      refine pk_le 60 i (fun hle => ?_) (fun hlt => ⟨iq, ?_⟩)
      · have e : i = 60 := by omega
        subst e
        refine ym_spread (G := fun t => ¬ u t = 0) (fun t ht z => ?_) hgs (fun R2 hf => ?_)
        · have ho := (hR t ht).mp z
          obtain ⟨t', ht', e', g⟩ := hk ho.1
          have : t' = t := ph_inj (by omega) (by omega) (e'.symm.trans ho.2)
          rw [← this]
          exact g
        · exact h R2 (ph_lf_cg (fun t ht => hR t ht) hf)
      · have ii : vp_in (nI i) 60 := vp_in_nI hlt (by decide)
        have go : ∀ y : Int32, (¬ y = 0 ↔ ph_ho k c q i) → wY_mark_2 post (nI q) x (nI (i + 1)) k c m u (upd R' i y) D := by
          intro y hy
          refine ih (i + 1) _ (by omega) (by omega) (fun t ht => ?_)
          by_cases e : t = i
          · rw [e, pk_us]
            exact hy
          · rw [pk_un e]
            exact hR t (by omega)
        rw [nI_clamp (n := q) (by omega), nI_clamp (n := i) (by omega), xm_n0, xm_n1]
        by_cases k2 : k q = 2
        · refine br_t k2 ⟨iq, ?_⟩
          by_cases ec : c q = nI i
          · exact br_t ec ⟨ii, nm_e (nm_r (nI_1 i) (go 1 ⟨fun _ => ⟨k2, ec⟩, fun _ => by decide⟩))⟩
          · exact br_f ec ⟨ii, nm_e (nm_r (nI_1 i) (go 0 ⟨fun z => absurd rfl z, fun z => absurd z.2 ec⟩))⟩
        · exact br_f k2 ⟨ii, nm_e (nm_r (nI_1 i) (go 0 ⟨fun z => absurd rfl z, fun z => absurd z.1 k2⟩))⟩
  exact ⟨61, H 61 0 R (by omega) (by omega) lt_0⟩
end
end
section
/-! the last of the loops: blob, restart, send, blobs -/
theorem ph_uu {f : Nat → Int32} {k : Nat} {x y : Int32} : upd (upd f k x) k y = upd f k y := by
  funext j
  by_cases e : j = k
  · rw [e, pk_us, pk_us]
  · rw [pk_un e, pk_un e, pk_un e]
theorem ph_ur {f : Nat → Int32} {k : Nat} {x : Int32} : upd (upd f k x) k (f k) = f := by
  funext j
  by_cases e : j = k
  · rw [e, pk_us]
  · rw [pk_un e, pk_un e]
theorem ph_lf_ex (K V : Nat → Int32) (R : Nat → Prop) : ∃ S, ph_lf K V R S := by
  refine ⟨fun t => ∀ S' : Nat → Prop, (∀ t, t < 60 → R t → S' t) → ph_cl K V S' → S' t, ?_, ?_, ?_⟩
  · intro t ht hr S' h1 _
    exact h1 t ht hr
  · intro s b t hs hb ht h ho S' h1 h2
    exact h2 s b t hs hb ht (h S' h1 h2) ho
  · intro S' h1 h2 t _ h
    exact h S' h1 h2
theorem ph_bex (Q : Nat → Prop) : ∃ f : Nat → Int32, ∀ t, (¬ f t = 0 ↔ Q t) := by
  have : ∀ t, ∃ x : Int32, (¬ x = 0 ↔ Q t) := by
    intro t
    by_cases h : Q t
    · exact ⟨1, fun _ => h, fun _ => by decide⟩
    · exact ⟨0, fun z => absurd rfl z, fun z => absurd z h⟩
  exact Classical.axiomOfChoice this
theorem ph_xm_rel {sg N : Nat → Nat} {K V U M k c u m K' V' U' : Nat → Int32} (h : ph_rel sg N K V U M k c u m) {p n : Nat} (hp : p < 3) (hx : ph_xm p n K V U K' V' U') : ∃ u', ph_rel sg N K' V' U' M k c u' m := by
  by_cases z : ph_ct u (20 * p) 20 + n ≤ 20
  · exact ⟨u, ph_room2 h hp hx (Or.inl ⟨z, rfl⟩)⟩
  · obtain ⟨T, hT⟩ := ph_lf_ex k c (ph_yr p k c u N)
    obtain ⟨u', hu'⟩ := ph_bex (fun t => ¬ u t = 0 ∧ (t / 20 = p → T t))
    exact ⟨u', ph_room2 h hp hx (Or.inr ⟨z, T, hT, fun t _ => hu' t⟩)⟩
section
variable {fc : Int32} {K V M U F I C : Nat → Int32}
theorem xm_restart {post : Int32 → SX → Prop} {p : Nat} (hp : p < 3) (hg : ∀ q, q < 141 → K q = 2 → ∃ s, s < 60 ∧ V q = nI s) (h : ∀ fc' K1 V1 K' V' U' F' I', (∀ i, i < 7 → K1 (7 * p + i) = 0 ∧ V1 (7 * p + i) = 0) → (∀ q, q < 141 → (∀ i, i < 7 → q ≠ 7 * p + i) → K1 q = K q ∧ V1 q = V q) → ph_xc p K1 V1 U K' V' U' → post 0 (fc', K', V', upd M p 0, U', F', I', C)) : wpX_restart post (fc, K, V, M, U, F, I, C) (nI p) := by
  have H : ∀ x i K1 V1, i ≤ 7 → 7 - i < x → (∀ j, j < i → K1 (7 * p + j) = 0 ∧ V1 (7 * p + j) = 0) → (∀ q, q < 141 → (∀ j, j < i → q ≠ 7 * p + j) → K1 q = K q ∧ V1 q = V q) → wX_restart_17 post (nI p) (nI (7 * p)) x (nI i) fc K1 V1 M U F I C := by
    intro x
    induction x with
    | zero => intro i _ _ _ h; omega
    | succ x ih =>
      intro i K1 V1 hi hx h1 h2
      refine pk_le 7 i (fun hle => ⟨vp_in_nI hp (by decide), ?_⟩) (fun hlt => ?_)
      · have e : i = 7 := by omega
        subst e
        rw [nI_clamp (by omega)]
        refine nm_e (xm_clean hp (fun q hq k2 => ?_) (fun fc' K' V' U' F' I' hx => h fc' K1 V1 K' V' U' F' I' h1 h2 hx))
        have hn : ∀ j, j < 7 → q ≠ 7 * p + j := by
          intro j hj e
          rw [e, (h1 j hj).1] at k2
          exact absurd k2 (by decide)
        obtain ⟨e1, e2⟩ := h2 q hq hn
        obtain ⟨s, hs, e⟩ := hg q hq (e1.symm.trans k2)
        exact ⟨s, hs, e2.trans e⟩
      · rw [nI_add]
        refine xm_set (by omega) (nm_r (nI_1 i) (ih (i + 1) _ _ (by omega) (by omega) (fun j hj => ?_) (fun q hq hn => ?_)))
        · by_cases e : j = i
          · rw [e]
            exact ⟨pk_us, pk_us⟩
          · rw [pk_un (by omega), pk_un (by omega)]
            exact h1 j (by omega)
        · have := hn i (by omega)
          rw [pk_un this, pk_un this]
          exact h2 q hq (fun j hj => hn j (by omega))
  unfold wpX_restart
  dsimp only
  refine xm_isProc1 hp (br_f (by decide) (xm_reg0 ⟨8, H 8 0 K V (by omega) (by omega) lt_0 (fun _ _ _ => ⟨rfl, rfl⟩)⟩))
theorem xm_blobs {post : Int32 → Prop} {f : Nat → Int32} (hf : ∀ j, j < 6 → (¬ f j = 0 ↔ ∃ q, q < 141 ∧ K q = 3 ∧ V q = nI j)) (h : post (nI (ph_ct f 0 6))) : wpX_blobs post (fc, K, V, M, U, F, I, C) := by
  have H : ∀ n i, i ≤ 6 → 6 - i < n → wX_blobs_4 post fc K V M U F I C n (nI (ph_ct f 0 i)) (nI i) := by
    intro n
    induction n with
    | zero => intro i _ h; omega
    | succ n ih =>
      intro i hi hn
      refine pk_le 6 i (fun hle => ?_) (fun hlt => ?_)
      · have e : i = 6 := by omega
        subst e
        exact h
      · have := ih (i + 1) (by omega) (by omega)
        refine xm_kept (fun z => ?_) (fun z => ?_)
        · rw [ph_ct_s1 (by rw [Nat.zero_add]; exact (hf i hlt).mpr z)] at this
          exact br_f (by decide) (nm_r (nI_1 _) (nm_r (nI_1 _) this))
        · rw [ph_ct_s0 (by rw [Nat.zero_add]; exact Classical.byContradiction (fun w => z ((hf i hlt).mp w)))] at this
          exact br_t rfl (nm_r (nI_1 _) this)
  exact ⟨7, H 7 0 (by omega) (by omega)⟩
end
section
variable {k c m u R D : Nat → Int32} {N : Nat → Nat}
theorem ym_blobs {post : Int32 → Prop} {f : Nat → Int32} (hm : ∀ p, p < 3 → N p ≤ 3 ∧ m p = nI (N p)) (h01 : ph_01 u) (hf : ∀ j, j < 6 → (¬ f j = 0 ↔ ∃ y, y < 141 ∧ nI y ≠ -1 ∧ k y = 3 ∧ c y = nI j ∧ ph_th u N y)) (h : post (nI (ph_ct f 0 6))) : wpY_blobs post (k, c, m, u, R, D) := by
  have H : ∀ n i, i ≤ 6 → 6 - i < n → wY_blobs_4 post k c m u R D n (nI (ph_ct f 0 i)) (nI i) := by
    intro n
    induction n with
    | zero => intro i _ h; omega
    | succ n ih =>
      intro i hi hn
      refine pk_le 6 i (fun hle => ?_) (fun hlt => ?_)
      · have e : i = 6 := by omega
        subst e
        exact h
      · have := ih (i + 1) (by omega) (by omega)
        refine ym_held hm h01 (fun z => ?_) (fun z => ?_)
        · rw [ph_ct_s1 (by rw [Nat.zero_add]; exact (hf i hlt).mpr z)] at this
          exact br_f (by decide) (nm_r (nI_1 _) (nm_r (nI_1 _) this))
        · rw [ph_ct_s0 (by rw [Nat.zero_add]; exact Classical.byContradiction (fun w => z ((hf i hlt).mp w)))] at this
          exact br_t rfl (nm_r (nI_1 _) this)
  exact ⟨7, H 7 0 (by omega) (by omega)⟩
theorem ym_blob {post : Int32 → SY → Prop} {p r b : Nat} (hp : p < 3) (hr : r < 4) (hm : ∀ p, p < 3 → N p ≤ 3 ∧ m p = nI (N p)) (h01 : ph_01 u) (hb : b ≤ 6) (hB : ∀ j, j < b → ∃ y, y < 141 ∧ nI y ≠ nI (4 * p + r) ∧ k y = 3 ∧ c y = nI j ∧ ph_th u N y) (hN : b < 6 → ¬ ∃ y, y < 141 ∧ nI y ≠ nI (4 * p + r) ∧ k y = 3 ∧ c y = nI b ∧ ph_th u N y) (h1 : b < 6 → post (nI b) (upd k (4 * p + r) 3, upd c (4 * p + r) (nI b), m, u, R, D)) (h0 : b = 6 → post (-2) (k, c, m, u, R, D)) : wpY_blob post (k, c, m, u, R, D) (nI p) (nI r) := by
  have H : ∀ n i, i ≤ b → 6 - i < n → wY_blob_12 post (nI p) (nI r) k c m u R D n (nI i) := by
    intro n
    induction n with
    | zero => intro i _ h; omega
    | succ n ih =>
      intro i hi hn
      refine pk_le 6 i (fun hle => h0 (by omega)) (fun hlt => ?_)
      rw [ym_e4 p r]
      refine ym_held hm h01 (fun z => ?_) (fun z => ?_)
      · by_cases e : i = b
        · rw [e] at z
          exact absurd z (hN (by omega))
        · exact br_f (by decide) (nm_r (nI_1 i) (ih (i + 1) (by omega) (by omega)))
      · by_cases e : i = b
        · subst e
          exact br_t rfl (ym_set (by omega) (h1 hlt))
        · exact absurd (hB i (by omega)) z
  unfold wpY_blob
  dsimp only
  exact ym_bad1 hp hr (br_t rfl ⟨7, H 7 0 (by omega) (by omega)⟩)
theorem ym_restart {post : Int32 → SY → Prop} {p : Nat} (hp : p < 3) (h01 : ph_01 u) (h : ∀ k' c' u', (∀ r, r < 4 → k' (4 * p + r) = 0) → (∀ y, y < 141 → (∀ r, r < 4 → y ≠ 4 * p + r) → k' y = k y ∧ c' y = c y) → ph_01 u' → (∀ t, t < 60 → (¬ u' t = 0 ↔ ¬ u t = 0 ∧ (t / 20 = p → False))) → post 0 (k', c', upd m p 0, u', R, D)) : wpY_restart post (k, c, m, u, R, D) (nI p) := by
  have H2 : ∀ x i k' c' u', (∀ r, r < 4 → k' (4 * p + r) = 0) → (∀ y, y < 141 → (∀ r, r < 4 → y ≠ 4 * p + r) → k' y = k y ∧ c' y = c y) → i ≤ 20 → 20 - i < x → ph_01 u' → (∀ t, t < 60 → (¬ u' t = 0 ↔ ¬ u t = 0 ∧ ¬ (20 * p ≤ t ∧ t < 20 * p + i))) → wY_restart_46 post (nI p) x (nI (20 * p + i)) k' c' (upd m p 0) u' R D := by
    intro x
    induction x with
    | zero => intro i _ _ _ _ _ _ h; omega
    | succ x ih =>
      intro i k' c' u' g1 g2 hi hx hu hv
      refine pk_le (20 * p + 20) (20 * p + i) (fun hle => ?_) (fun hlt => ⟨vp_in_nI (by omega) (by decide), ?_⟩) (hx := by rw [ym_e20, ym_e2020])
      · have e : i = 20 := by omega
        subst e
        refine h k' c' u' g1 g2 hu (fun t ht => (hv t ht).trans ⟨fun z => ⟨z.1, fun w => z.2 (by omega)⟩, fun z => ⟨z.1, fun w => z.2 (by omega)⟩⟩)
      · rw [nI_clamp (by omega), xm_n0]
        refine nm_e (nm_r (nI_1 _) (ih (i + 1) k' c' _ g1 g2 (by omega) (by omega) (ph_01_u hu (Or.inl rfl)) (fun t ht => ?_)))
        by_cases e : t = 20 * p + i
        · rw [e, pk_us]
          exact ⟨fun z => absurd rfl z, fun z => absurd (by omega) z.2⟩
        · rw [pk_un e, hv t ht]
          exact ⟨fun z => ⟨z.1, fun w => z.2 (by omega)⟩, fun z => ⟨z.1, fun w => z.2 (by omega)⟩⟩
  have H1 : ∀ x i k' c', i ≤ 4 → 4 - i < x → (∀ r, r < i → k' (4 * p + r) = 0) → (∀ y, y < 141 → (∀ r, r < i → y ≠ 4 * p + r) → k' y = k y ∧ c' y = c y) → wY_restart_12 post (nI p) x (nI i) k' c' m u R D := by
    intro x
    induction x with
    | zero => intro i _ _ _ h; omega
    | succ x ih =>
      intro i k' c' hi hx g1 g2
      refine pk_le 4 i (fun hle => ⟨vp_in_nI hp (by decide), ?_⟩) (fun hlt => ?_)
      · have e : i = 4 := by omega
        subst e
        rw [nI_clamp (by omega)]
        exact nm_e (nm_r (ym_e20 p) ⟨21, H2 21 0 k' c' u g1 g2 (by omega) (by omega) h01 (fun t _ => ⟨fun z => ⟨z, fun w => absurd w (by omega)⟩, fun z => z.1⟩)⟩)
      · rw [ym_e4 p i]
        refine ym_set (by omega) (nm_r (nI_1 i) (ih (i + 1) _ _ (by omega) (by omega) (fun j hj => ?_) (fun y hy hn => ?_)))
        · by_cases e : j = i
          · rw [e]
            exact pk_us
          · rw [pk_un (by omega)]
            exact g1 j (by omega)
        · have := hn i (by omega)
          rw [pk_un this, pk_un this]
          exact g2 y hy (fun j hj => hn j (by omega))
  unfold wpY_restart
  dsimp only
  exact ym_badp1 hp (br_t rfl ⟨5, H1 5 0 k c (by omega) (by omega) lt_0 (fun _ _ _ => ⟨rfl, rfl⟩)⟩)
theorem ym_send {post : Int32 → SY → Prop} {to q : Nat} (hto : to < 3) (hq : q < 21) (hm : N to < 3 ∧ m to = nI (N to)) (h01 : ph_01 u) (hct : ph_ct u (20 * to) 20 + ph_ct R 0 60 ≤ 20) (hRu : ∀ t, t < 60 → ¬ R t = 0 → ¬ u t = 0) (hgs : ∀ t b, t < 60 → b < 2 → ¬ R t = 0 → k (21 + 2 * t + b) = 2 → ∃ t', t' < 60 ∧ c (21 + 2 * t + b) = nI t') (hgq : k q = 2 → ∃ t, t < 60 ∧ c q = nI t)
    (h : ∀ D' u1 k1 c1, ph_01 u1 → ph_al u to (fun t => ¬ R t = 0) D' u1 → ph_cp k c D' (fun t => ¬ R t = 0) k1 c1 → post 0 (upd k1 (12 + 3 * to + N to) (k q), upd c1 (12 + 3 * to + N to) (ph_cv k c D' q), upd m to (nI (N to + 1)), u1, R, D')) : ∃ n, wY_send_72 post (nI to) (nI q) n 0 k c m u R D := by
  have full : ∀ t, t < 60 → ((t < 60 ∧ ¬ R t = 0) ↔ ¬ R t = 0) := fun t ht => ⟨fun z => z.2, fun z => ⟨ht, z⟩⟩
  have H2 : ∀ x i D' u1 k' c', i ≤ 60 → 60 - i < x → ph_01 u1 → ph_al u to (fun t => ¬ R t = 0) D' u1 → ph_cp k c D' (fun t => t < i ∧ ¬ R t = 0) k' c' → wY_send_123 post (nI to) (nI q) x (nI i) k' c' m u1 R D' := by
    intro x
    induction x with
    | zero => intro i _ _ _ _ _ h; omega
    | succ x ih =>
      intro i D' u1 k' c' hi hx h1 hal hcp
      refine pk_le 60 i (fun hle => ⟨vp_in_nI hto (by decide), ?_⟩) (fun hlt => ⟨vp_in_nI hlt (by decide), ?_⟩)
      · have e : i = 60 := by omega
        subst e
        have hcp := ph_cp_cg full hcp
        have kq := hcp.2 q (by omega) (fun s a b _ _ _ _ _ => by omega)
        have em : 12 + 3 * nI to + m to = nI (12 + 3 * to + N to) := by
          rw [hm.2, show (12 : Int32) = nI 12 from rfl, show (3 : Int32) = nI 3 from rfl, pk_mul, nI_add, nI_add]
        have := h D' u1 k' c' h1 hal hcp
        rw [← ph_cv_cg kq, ← kq.1] at this
        rw [nI_clamp (n := to) (by omega), em]
        refine ym_copy1 (by omega) (by omega) (fun z => ?_) ?_
        · obtain ⟨t, ht, e⟩ := hgq (kq.1.symm.trans z)
          exact ⟨t, ht, kq.2.trans e⟩
        · refine ⟨vp_in_nI hto (by decide), vp_in_nI hto (by decide), nm_r (e' := upd m to (nI (N to + 1))) ?_ this⟩
          rw [hm.2, nI_1]
      · rw [nI_clamp (n := i) (by omega)]
        by_cases z : R i = 0
        · refine br_t z (nm_r (nI_1 i) (ih (i + 1) D' u1 k' c' (by omega) (by omega) h1 hal (ph_cp_cg (fun t ht => ?_) hcp)))
          constructor
          · intro w
            exact ⟨by omega, w.2⟩
          · intro w
            by_cases e : t = i
            · rw [e] at w
              exact absurd z w.2
            · exact ⟨by omega, w.2⟩
        · obtain ⟨a, ha, hap, hDa, hua⟩ := hal.1 i hlt z
          have sep : ∀ s' a', s' < 60 → a' < 60 → (s' < i ∧ ¬ R s' = 0) → D' s' = nI a' → a' ≠ i := by
            intro s' a' hs' ha' d e w
            obtain ⟨a2, _, _, e2, u2⟩ := hal.1 s' hs' d.2
            have : a2 = a' := ph_inj (by omega) (by omega) (e2.symm.trans e)
            rw [this, w] at u2
            exact hRu i hlt z u2
          have k0 := ph_cp_k hcp (b := 0) hlt (by omega) sep
          have k1 := ph_cp_k hcp (b := 1) hlt (by omega) sep
          refine br_f z ⟨vp_in_nI hlt (by decide), ?_⟩
          rw [hDa, xm_e21 a, xm_e21 i, ym_e22 i]
          refine ym_copy1 (by omega) (by omega) (fun w => ?_) ⟨vp_in_nI hlt (by decide), ?_⟩
          · obtain ⟨t, ht, e⟩ := hgs i 0 hlt (by omega) z (k0.1.symm.trans w)
            exact ⟨t, ht, k0.2.trans e⟩
          · have e1 : upd k' (21 + 2 * a) (k' (21 + 2 * i)) (21 + 2 * i + 1) = k (21 + 2 * i + 1) := (pk_un (by omega)).trans k1.1
            have e2 : ∀ y, upd c' (21 + 2 * a) y (21 + 2 * i + 1) = c (21 + 2 * i + 1) := fun y => (pk_un (by omega)).trans k1.2
            rw [hDa, ym_e22 a]
            refine ym_copy1 (by omega) (by omega) (fun w => ?_) ?_
            · obtain ⟨t, ht, e⟩ := hgs i 1 hlt (by omega) z (e1.symm.trans w)
              exact ⟨t, ht, (e2 _).trans e⟩
            · refine nm_r (nI_1 i) ?_
              rw [ph_cv_cg ⟨e1, e2 _⟩, e1, ph_cv_cg (K := k) (V := c) (K' := k') (V' := c') (q := 21 + 2 * i) k0, show k' (21 + 2 * i) = k (21 + 2 * i) from k0.1]
              refine ih (i + 1) D' u1 _ _ (by omega) (by omega) h1 hal (ph_cp_s hcp hlt ha hDa (fun s' hs' d e => ?_) (fun s' hs' => ?_))
              · have := hal.2.1 s' i hs' hlt d.2 z (e.trans hDa.symm)
                omega
              · constructor
                · intro w
                  by_cases e : s' = i
                  · exact Or.inr e
                  · exact Or.inl ⟨by omega, w.2⟩
                · intro w
                  rcases w with w | w
                  · exact ⟨by omega, w.2⟩
                  · rw [w]
                    exact ⟨by omega, z⟩
  have H1 : ∀ x i D' u1, i ≤ 60 → 60 - i < x → ph_01 u1 → ph_al u to (fun t => t < i ∧ ¬ R t = 0) D' u1 → ph_ct u1 (20 * to) 20 + ph_ct R 0 60 ≤ 20 + ph_ct R 0 i → wY_send_72 post (nI to) (nI q) x (nI i) k c m u1 R D' := by
    intro x
    induction x with
    | zero => intro i _ _ _ h; omega
    | succ x ih =>
      intro i D' u1 hi hx h1 hal hc
      refine pk_le 60 i (fun hle => ?_) (fun hlt => ⟨vp_in_nI hlt (by decide), ?_⟩)
      · have e : i = 60 := by omega
        subst e
        exact ⟨61, H2 61 0 D' u1 k c (by omega) (by omega) h1 (ph_al_cg full hal) (ph_cp_0 (fun s _ d => absurd d.1 (by omega)))⟩
      · rw [nI_clamp (n := i) (by omega)]
        by_cases z : R i = 0
        · rw [← ph_ct_s0 (P := R) (a := 0) (n := i) (by rw [Nat.zero_add]; exact z)] at hc
          refine br_t z (nm_r (nI_1 i) (ih (i + 1) D' u1 (by omega) (by omega) h1 (ph_al_cg (fun t ht => ?_) hal) hc))
          constructor
          · intro w
            exact ⟨by omega, w.2⟩
          · intro w
            by_cases e : t = i
            · rw [e] at w
              exact absurd z w.2
            · exact ⟨by omega, w.2⟩
        · have s1 := ph_ct_s1 (P := R) (a := 0) (n := i) (by rw [Nat.zero_add]; exact z)
          have mo := ph_ct_mono (P := R) (a := 0) (i := i + 1) (j := 60) (by omega)
          refine br_f z (ym_unused hto (by omega) (fun a g1 g2 g3 => ⟨vp_in_nI hlt (by decide), nm_e ⟨vp_in_nI hlt (by decide), ?_⟩⟩))
          rw [pk_us]
          refine ⟨vp_in_nI (by omega) (by decide), ?_⟩
          rw [nI_clamp (n := a) (by omega), xm_n1]
          refine nm_e (nm_r (nI_1 i) (ih (i + 1) _ _ (by omega) (by omega) (ph_01_u h1 (Or.inr rfl)) (ph_al_s hal hlt (fun w => absurd w.1 (by omega)) (by omega) (by omega) g3 (by decide) (fun s' hs' => ?_)) ?_))
          · constructor
            · intro w
              by_cases e : s' = i
              · exact Or.inr e
              · exact Or.inl ⟨by omega, w.2⟩
            · intro w
              rcases w with w | w
              · exact ⟨by omega, w.2⟩
              · rw [w]
                exact ⟨by omega, z⟩
          · rw [ph_ct_set (by decide) g3 20 g1 g2]
            omega
  exact ⟨61, H1 61 0 D u (by omega) (by omega) h01 (ph_al_0 (fun s _ d => absurd d.1 (by omega))) (by show _ ≤ 20 + 0; omega)⟩
end
end
section
/-! what is owed -/
def i_Rel (_ : Nat) (u : SX) (v : SY) : Prop := ∃ sg N, ph_rel sg N u.2.1 u.2.2.1 u.2.2.2.2.1 u.2.2.2.1 v.1 v.2.1 v.2.2.2.1 v.2.2.1 ∧ ph_01 v.2.2.2.1
theorem i_up {k : Nat} {u : SX} {v : SY} (h : i_Rel k u v) : i_Rel (k + 5) u v := h
theorem ph_mkR {j : Nat} {fc : Int32} {K V M U F I C k c m u R D : Nat → Int32} {sg N : Nat → Nat} (h : ph_rel sg N K V U M k c u m) (h01 : ph_01 u) : i_Rel j (fc, K, V, M, U, F, I, C) (k, c, m, u, R, D) := Exists.intro sg (Exists.intro N (And.intro h h01))
theorem i_vc0 : wpX_init (fun u => wpY_init (fun v => i_Rel 0 u v)) := by
  unfold wpX_init wpY_init
  refine ph_mkR (sg := fun s => s) (N := fun _ => 0) (ph_mk ?_ ?_ ?_ ?_ ?_ ?_ ?_ ?_ ?_) (fun t _ => Or.inl rfl)
  · exact fun p _ => ⟨by omega, rfl, rfl⟩
  · exact fun s _ z => absurd rfl z
  · exact fun s _ _ _ z => absurd rfl z
  · exact fun s _ z => absurd rfl z
  · exact fun p r _ _ => ph_tm_nil
  · exact fun p j _ _ z => absurd z (by omega)
  · exact fun p j _ _ _ => ⟨rfl, rfl⟩
  · exact fun s b _ _ z => absurd rfl z
  · exact fun s b _ _ _ => ⟨rfl, rfl⟩
theorem ph_hg {sg N : Nat → Nat} {K V U M k c u m : Nat → Int32} (h : ph_rel sg N K V U M k c u m) : ∀ q, q < 141 → K q = 2 → ∃ s, s < 60 ∧ V q = nI s := by
  intro q hq k2
  obtain ⟨s, hs, _, _, e⟩ := ph_gx h hq k2
  exact ⟨s, hs, e⟩
theorem ph_hm {sg N : Nat → Nat} {K V U M k c u m : Nat → Int32} (h : ph_rel sg N K V U M k c u m) : ∀ p, p < 3 → N p ≤ 3 ∧ m p = nI (N p) := fun p hp => ⟨(h.1 p hp).1, (h.1 p hp).2.2⟩
theorem i_vc_number {k : Nat} {u : SX} {v : SY} (I : i_Rel k u v) (hk : k + 5 ≤ 2560) (v1 : Int32) (v2 : Int32) (v3 : Int32) : wpX_number (fun r u' => wpY_number (fun r' v' => r' = r ∧ i_Rel (k + 5) u' v') v v1 v2 v3) u v1 v2 v3 := by
  obtain ⟨fc, K, V, M, U, F, J, C⟩ := u
  obtain ⟨ky, c, m, uy, R, D⟩ := v
  obtain ⟨sg, N, h, h01⟩ := I
  dsimp only at h h01
  unfold wpX_number wpY_number
  dsimp only
  by_cases hr : ∃ p r, p < 3 ∧ r < 4 ∧ v1 = nI p ∧ v2 = nI r
  · obtain ⟨p, r, hp, hr, rfl, rfl⟩ := hr
    refine xm_isReg1 hp hr (br_f (by decide) (xm_reg (xm_set (by omega) ?_)))
    refine ym_bad1 hp hr (br_t rfl ?_)
    rw [ym_e4]
    exact ym_set (by omega) ⟨rfl, ph_mkR (ph_setr h hp hr ph_tm_num) h01⟩
  · exact xm_isReg0 hr (br_t rfl (ym_bad0 hr (br_f (by decide) ⟨rfl, ph_mkR h h01⟩)))
theorem i_vc_move {k : Nat} {u : SX} {v : SY} (I : i_Rel k u v) (hk : k + 5 ≤ 2560) (v1 : Int32) (v2 : Int32) (v3 : Int32) : wpX_move (fun r u' => wpY_move (fun r' v' => r' = r ∧ i_Rel (k + 5) u' v') v v1 v2 v3) u v1 v2 v3 := by
  obtain ⟨fc, K, V, M, U, F, J, C⟩ := u
  obtain ⟨ky, c, m, uy, R, D⟩ := v
  obtain ⟨sg, N, h, h01⟩ := I
  dsimp only at h h01
  unfold wpX_move wpY_move
  dsimp only
  by_cases hr : ∃ p r, p < 3 ∧ r < 4 ∧ v1 = nI p ∧ v2 = nI r
  · obtain ⟨p, r, hp, hr, rfl, rfl⟩ := hr
    by_cases hs : ∃ s, s < 4 ∧ v3 = nI s
    · obtain ⟨s, hs, rfl⟩ := hs
      refine xm_isReg1 hp hr (br_f (by decide) (xm_isReg1 hp hs (br_f (by decide) (xm_reg (xm_reg ?_)))))
      rw [nI_clamp (n := 7 * p + s) (by omega)]
      refine ⟨vp_in_nI (by omega) (by decide), vp_in_nI (by omega) (by decide), xm_set (by omega) ?_⟩
      refine ym_bad1 hp hr (br_t rfl (ym_bad1 hp hs (br_t rfl ?_)))
      rw [ym_e4 p r, ym_e4 p s]
      exact ym_take (by omega) (by omega) ⟨rfl, ph_mkR (ph_setr h hp hr (ph_reg h hp hs)) h01⟩
    · have hs' : ¬ ∃ p' r', p' < 3 ∧ r' < 4 ∧ nI p = nI p' ∧ v3 = nI r' := fun ⟨_, r', _, hr', _, e⟩ => hs ⟨r', hr', e⟩
      exact xm_isReg1 hp hr (br_f (by decide) (xm_isReg0 hs' (br_t rfl (ym_bad1 hp hr (br_t rfl (ym_bad0 hs' (br_f (by decide) ⟨rfl, ph_mkR h h01⟩)))))))
  · exact xm_isReg0 hr (br_t rfl (ym_bad0 hr (br_f (by decide) ⟨rfl, ph_mkR h h01⟩)))
theorem i_vc_nil {k : Nat} {u : SX} {v : SY} (I : i_Rel k u v) (hk : k + 5 ≤ 2560) (v1 : Int32) (v2 : Int32) : wpX_nil (fun r u' => wpY_nil (fun r' v' => r' = r ∧ i_Rel (k + 5) u' v') v v1 v2) u v1 v2 := by
  obtain ⟨fc, K, V, M, U, F, J, C⟩ := u
  obtain ⟨ky, c, m, uy, R, D⟩ := v
  obtain ⟨sg, N, h, h01⟩ := I
  dsimp only at h h01
  unfold wpX_nil wpY_nil
  dsimp only
  by_cases hr : ∃ p r, p < 3 ∧ r < 4 ∧ v1 = nI p ∧ v2 = nI r
  · obtain ⟨p, r, hp, hr, rfl, rfl⟩ := hr
    refine xm_isReg1 hp hr (br_f (by decide) (xm_reg (xm_set (by omega) ?_)))
    refine ym_bad1 hp hr (br_t rfl ?_)
    rw [ym_e4]
    exact ym_set (by omega) ⟨rfl, ph_mkR (ph_setr h hp hr ph_tm_nil) h01⟩
  · exact xm_isReg0 hr (br_t rfl (ym_bad0 hr (br_f (by decide) ⟨rfl, ph_mkR h h01⟩)))
theorem i_vc_blob {k : Nat} {u : SX} {v : SY} (I : i_Rel k u v) (hk : k + 5 ≤ 2560) (v1 : Int32) (v2 : Int32) : wpX_blob (fun r u' => wpY_blob (fun r' v' => r' = r ∧ i_Rel (k + 5) u' v') v v1 v2) u v1 v2 := by
  obtain ⟨fc, K, V, M, U, F, J, C⟩ := u
  obtain ⟨ky, c, m, uy, R, D⟩ := v
  obtain ⟨sg, N, h, h01⟩ := I
  dsimp only at h h01
  unfold wpX_blob
  dsimp only
  by_cases hr : ∃ p r, p < 3 ∧ r < 4 ∧ v1 = nI p ∧ v2 = nI r
  · obtain ⟨p, r, hp, hr, rfl, rfl⟩ := hr
    have iq : vp_in (nI (7 * p + r)) 141 := vp_in_nI (by omega) (by decide)
    have eqv : ∀ x : Int32, (∃ q, q < 141 ∧ upd K (7 * p + r) 0 q = 3 ∧ upd V (7 * p + r) 0 q = x) ↔ (∃ y, y < 141 ∧ nI y ≠ nI (4 * p + r) ∧ ky y = 3 ∧ c y = x ∧ ph_th uy N y) := by
      intro x
      rw [← ph_blob h x (fun q => q ≠ 7 * p + r) (fun y => nI y ≠ nI (4 * p + r)) ?_]
      · constructor
        · intro ⟨q, hq, e1, e2⟩
          by_cases e : q = 7 * p + r
          · rw [e, pk_us] at e1
            exact absurd e1 (by decide)
          · rw [pk_un e] at e1 e2
            exact ⟨q, hq, e, e1, e2⟩
        · intro ⟨q, hq, e, e1, e2⟩
          exact ⟨q, hq, by rw [pk_un e]; exact e1, by rw [pk_un e]; exact e2⟩
      · intro q hq hl
        constructor
        · intro z w
          have lt := (ph_thq h hq hl).1
          have w' := ph_inj (by omega) (by omega) w
          exact z (ph_yp_inj h.2.2.1 hq (by omega) hl (ph_live_reg hp hr) (w'.trans (ph_yp_reg hp hr).symm))
        · intro z w
          refine z ?_
          rw [w, ph_yp_reg hp hr]
    refine xm_isReg1 hp hr (br_f (by decide) (xm_reg ?_))
    rw [nI_clamp (n := 7 * p + r) (by omega)]
    refine ⟨iq, nm_e ⟨iq, nm_e (xm_set (by omega) (xm_free (fun b hb hB hN => ?_)))⟩⟩
    refine pk_lt b 6 (fun hlt => xm_set (by omega) ?_) (fun hle => xm_set (by omega) ?_)
    · refine ym_blob hp hr (ph_hm h) h01 hb (fun j hj => (eqv _).mp (hB j hj)) (fun z w => hN z ((eqv _).mpr w)) (fun _ => ?_) (fun e => absurd e (by omega))
      rw [ph_uu, ph_uu]
      exact ⟨rfl, ph_mkR (ph_setr h hp hr ph_tm_blob) h01⟩
    · refine ym_blob hp hr (ph_hm h) h01 hb (fun j hj => (eqv _).mp (hB j hj)) (fun z w => hN z ((eqv _).mpr w)) (fun z => absurd z (by omega)) (fun _ => ?_)
      rw [ph_ur, ph_ur]
      exact ⟨rfl, ph_mkR h h01⟩
  · refine xm_isReg0 hr (br_t rfl ?_)
    unfold wpY_blob
    dsimp only
    exact ym_bad0 hr (br_f (by decide) ⟨rfl, ph_mkR h h01⟩)
theorem i_vc_part {k : Nat} {u : SX} {v : SY} (I : i_Rel k u v) (hk : k + 5 ≤ 2560) (v1 : Int32) (v2 : Int32) (v3 : Int32) (v4 : Int32) : wpX_part (fun r u' => wpY_part (fun r' v' => r' = r ∧ i_Rel (k + 5) u' v') v v1 v2 v3 (lw_bz v4)) u v1 v2 v3 (lw_bz v4) := by
  obtain ⟨fc, K, V, M, U, F, J, C⟩ := u
  obtain ⟨ky, c, m, uy, R, D⟩ := v
  obtain ⟨sg, N, h, h01⟩ := I
  dsimp only at h h01
  unfold wpX_part wpY_part
  dsimp only
  by_cases hr : ∃ p r, p < 3 ∧ r < 4 ∧ v1 = nI p ∧ v2 = nI r
  · obtain ⟨p, r, hp, hr, rfl, rfl⟩ := hr
    by_cases hs : ∃ s, s < 4 ∧ v3 = nI s
    · obtain ⟨s, hs, rfl⟩ := hs
      have iq : vp_in (nI (7 * p + s)) 141 := vp_in_nI (by omega) (by decide)
      have iy : vp_in (nI (4 * p + s)) 141 := vp_in_nI (by omega) (by decide)
      have tm := ph_reg h hp hs
      rw [ym_e4 p r, ym_e4 p s, nI_clamp (n := 4 * p + s) (by omega)]
      refine xm_isReg1 hp hr (br_f (by decide) (xm_isReg1 hp hs (br_f (by decide) (xm_reg ⟨iq, ?_⟩))))
      rw [nI_clamp (n := 7 * p + s) (by omega)]
      by_cases k2 : K (7 * p + s) = 2
      · obtain ⟨ky2, t, ht, htp, hut, hv, hc⟩ := ph_tm_x tm k2
        have sgt := h.2.1 t ht hut
        rw [hv, hc]
        refine br_t k2 (xm_reg ⟨iq, xm_head ?_⟩)
        by_cases z : lw_bz v4 = 0
        · refine br_t z (nm_r (nI_1 _) ⟨vp_in_nI (by omega) (by decide), vp_in_nI (by omega) (by decide), ?_⟩)
          rw [nI_clamp (n := 21 + 2 * t + 1) (by omega)]
          refine xm_set (by omega) (ym_bad1 hp hr (br_t rfl (ym_bad1 hp hs (br_t rfl ⟨iy, br_t ky2 ⟨iy, nm_e (br_t z ?_)⟩⟩))))
          rw [ym_e22]
          refine ym_take (by omega) (by omega) ⟨rfl, ph_mkR (ph_setr h hp hr ?_) h01⟩
          have := ph_cell h (b := 1) ht (by omega) hut
          rw [htp] at this
          exact this
        · refine br_f z ⟨vp_in_nI (by omega) (by decide), vp_in_nI (by omega) (by decide), ?_⟩
          rw [nI_clamp (n := 21 + 2 * t) (by omega)]
          refine xm_set (by omega) (ym_bad1 hp hr (br_t rfl (ym_bad1 hp hs (br_t rfl ⟨iy, br_t ky2 ⟨iy, nm_e (br_f z ?_)⟩⟩))))
          rw [xm_e21]
          refine ym_take (by omega) (by omega) ⟨rfl, ph_mkR (ph_setr h hp hr ?_) h01⟩
          have := ph_cell h (b := 0) ht (by omega) hut
          rw [htp] at this
          exact this
      · refine br_f k2 (ym_bad1 hp hr (br_t rfl (ym_bad1 hp hs (br_t rfl ⟨iy, br_f (fun z => k2 (tm.1.symm.trans z)) ⟨rfl, ph_mkR h h01⟩⟩))))
    · have hs' : ¬ ∃ p' r', p' < 3 ∧ r' < 4 ∧ nI p = nI p' ∧ v3 = nI r' := fun ⟨_, r', _, hr', _, e⟩ => hs ⟨r', hr', e⟩
      exact xm_isReg1 hp hr (br_f (by decide) (xm_isReg0 hs' (br_t rfl (ym_bad1 hp hr (br_t rfl (ym_bad0 hs' (br_f (by decide) ⟨rfl, ph_mkR h h01⟩)))))))
  · exact xm_isReg0 hr (br_t rfl (ym_bad0 hr (br_f (by decide) ⟨rfl, ph_mkR h h01⟩)))
theorem i_vc_collect {k : Nat} {u : SX} {v : SY} (I : i_Rel k u v) (hk : k + 5 ≤ 2560) (v1 : Int32) : wpX_collect (fun r u' => wpY_collect (fun r' v' => r' = r ∧ i_Rel (k + 5) u' v') v v1) u v1 := by
  obtain ⟨fc, K, V, M, U, F, J, C⟩ := u
  obtain ⟨ky, c, m, uy, R, D⟩ := v
  obtain ⟨sg, N, h, h01⟩ := I
  dsimp only at h h01
  unfold wpX_collect wpY_collect
  dsimp only
  by_cases hp : ∃ p, p < 3 ∧ v1 = nI p
  · obtain ⟨p, hp, rfl⟩ := hp
    refine xm_isProc1 hp (br_f (by decide) (xm_clean hp (ph_hg h) (fun fc' K' V' U' F' I' hx => xm_count hp ?_)))
    refine ym_badp1 hp (br_t rfl (ym_clean hp (ph_hm h) h01 (fun y hy ht k2 => ph_gy h hy ht k2) (fun u' R' h01' hy => ym_count hp ?_)))
    have h' := ph_clean2 h hp hx hy
    rw [ph_cnt h' hp]
    exact ⟨rfl, ph_mkR h' h01'⟩
  · have hp' : ∀ p, p < 3 → v1 ≠ nI p := fun p h3 e => hp ⟨p, h3, e⟩
    exact xm_isProc0 hp' (br_t rfl (ym_badp0 hp' (br_f (by decide) ⟨rfl, ph_mkR h h01⟩)))
theorem i_vc_restart {k : Nat} {u : SX} {v : SY} (I : i_Rel k u v) (hk : k + 5 ≤ 2560) (v1 : Int32) : wpX_restart (fun r u' => wpY_restart (fun r' v' => r' = r ∧ i_Rel (k + 5) u' v') v v1) u v1 := by
  obtain ⟨fc, K, V, M, U, F, J, C⟩ := u
  obtain ⟨ky, c, m, uy, R, D⟩ := v
  obtain ⟨sg, N, h, h01⟩ := I
  dsimp only at h h01
  by_cases hp : ∃ p, p < 3 ∧ v1 = nI p
  · obtain ⟨p, hp, rfl⟩ := hp
    refine xm_restart hp (ph_hg h) (fun fc' K1 V1 K' V' U' F' I' a1 a3 hx => ?_)
    refine ym_restart hp h01 (fun k' c' u' b1 b3 h01' hu => ⟨rfl, ?_⟩)
    have h1 := ph_wipe h hp a1 a3 b1 b3
    refine ph_mkR (ph_clean2 h1 hp hx ⟨fun _ => False, ⟨?_, ?_, ?_⟩, hu⟩) h01'
    · intro t ht ⟨y, hy, hyo, hth, ho⟩
      rcases hth with w | w | w
      · unfold ph_yo at hyo
        rw [if_pos w] at hyo
        have := b1 (y % 4) (by omega)
        rw [show 4 * p + y % 4 = y by omega, ho.1] at this
        exact absurd this (by decide)
      · unfold ph_yo at hyo
        rw [if_neg (by omega)] at hyo
        have := w.2.2
        rw [hyo, ph_nus] at this
        omega
      · omega
    · intro s b t _ _ _ z _
      exact z
    · intro S' _ _ t _ z
      exact absurd z id
  · have hp' : ∀ p, p < 3 → v1 ≠ nI p := fun p h3 e => hp ⟨p, h3, e⟩
    unfold wpX_restart wpY_restart
    dsimp only
    exact xm_isProc0 hp' (br_t rfl (ym_badp0 hp' (br_f (by decide) ⟨rfl, ph_mkR h h01⟩)))
theorem i_vc_kind {k : Nat} {u : SX} {v : SY} (I : i_Rel k u v) (hk : k + 5 ≤ 2560) (v1 : Int32) (v2 : Int32) : wpX_kind (fun r => wpY_kind (fun r' => r' = r ∧ i_Rel (k + 5) u v) v v1 v2) u v1 v2 := by
  obtain ⟨fc, K, V, M, U, F, J, C⟩ := u
  obtain ⟨ky, c, m, uy, R, D⟩ := v
  obtain ⟨sg, N, h, h01⟩ := I
  dsimp only at h h01
  unfold wpX_kind wpY_kind
  dsimp only
  by_cases hr : ∃ p r, p < 3 ∧ r < 4 ∧ v1 = nI p ∧ v2 = nI r
  · obtain ⟨p, r, hp, hr, rfl, rfl⟩ := hr
    rw [ym_e4 p r, nI_clamp (n := 4 * p + r) (by omega)]
    refine xm_isReg1 hp hr (br_f (by decide) (xm_reg ⟨vp_in_nI (by omega) (by decide), ?_⟩))
    rw [nI_clamp (n := 7 * p + r) (by omega)]
    exact ym_bad1 hp hr (br_t rfl ⟨vp_in_nI (by omega) (by decide), (ph_reg h hp hr).1, ph_mkR h h01⟩)
  · exact xm_isReg0 hr (br_t rfl (ym_bad0 hr (br_f (by decide) ⟨rfl, ph_mkR h h01⟩)))
theorem i_vc_value {k : Nat} {u : SX} {v : SY} (I : i_Rel k u v) (hk : k + 5 ≤ 2560) (v1 : Int32) (v2 : Int32) : wpX_value (fun r => wpY_value (fun r' => r' = r ∧ i_Rel (k + 5) u v) v v1 v2) u v1 v2 := by
  obtain ⟨fc, K, V, M, U, F, J, C⟩ := u
  obtain ⟨ky, c, m, uy, R, D⟩ := v
  obtain ⟨sg, N, h, h01⟩ := I
  dsimp only at h h01
  unfold wpX_value wpY_value
  dsimp only
  by_cases hr : ∃ p r, p < 3 ∧ r < 4 ∧ v1 = nI p ∧ v2 = nI r
  · obtain ⟨p, r, hp, hr, rfl, rfl⟩ := hr
    have iq : vp_in (nI (7 * p + r)) 141 := vp_in_nI (by omega) (by decide)
    have iy : vp_in (nI (4 * p + r)) 141 := vp_in_nI (by omega) (by decide)
    have y31 : ∀ post : Int32 → Prop, post (c (4 * p + r)) → wY_value_31 post (nI p) (nI r) ky c m uy R D := by
      intro post hpost
      unfold wY_value_31
      rw [ym_e4 p r, nI_clamp (n := 4 * p + r) (by omega)]
      exact ⟨iy, hpost⟩
    obtain ⟨e, tm⟩ := ph_reg h hp hr
    rw [ym_e4 p r, nI_clamp (n := 4 * p + r) (by omega)]
    refine xm_isReg1 hp hr (br_f (by decide) (xm_reg ⟨iq, ?_⟩))
    rw [nI_clamp (n := 7 * p + r) (by omega)]
    rcases tm with ⟨a, b⟩ | ⟨a, b⟩ | ⟨a, b⟩ | ⟨a, b⟩
    · refine br_f (by rw [a]; decide) ⟨iq, ym_bad1 hp hr (br_t rfl ⟨iy, nm_e (br_f (by rw [e, a]; decide) (br_f (by rw [e, a]; decide) ⟨b.symm, ph_mkR h h01⟩))⟩)⟩
    · refine br_f (by rw [a]; decide) ⟨iq, ym_bad1 hp hr (br_t rfl ⟨iy, nm_e (br_t (e.trans a) (y31 _ ⟨b, ph_mkR h h01⟩))⟩)⟩
    · refine br_f (by rw [a]; decide) ⟨iq, ym_bad1 hp hr (br_t rfl ⟨iy, nm_e (br_f (by rw [e, a]; decide) (br_t (e.trans a) (y31 _ ⟨b, ph_mkR h h01⟩)))⟩)⟩
    · refine br_t a (ym_bad1 hp hr (br_t rfl ⟨iy, nm_e (br_f (by rw [e, a]; decide) (br_f (by rw [e, a]; decide) ⟨rfl, ph_mkR h h01⟩))⟩))
  · exact xm_isReg0 hr (br_t rfl (ym_bad0 hr (br_f (by decide) ⟨rfl, ph_mkR h h01⟩)))
theorem i_vc_pairs {k : Nat} {u : SX} {v : SY} (I : i_Rel k u v) (hk : k + 5 ≤ 2560) (v1 : Int32) : wpX_pairs (fun r => wpY_pairs (fun r' => r' = r ∧ i_Rel (k + 5) u v) v v1) u v1 := by
  obtain ⟨fc, K, V, M, U, F, J, C⟩ := u
  obtain ⟨ky, c, m, uy, R, D⟩ := v
  obtain ⟨sg, N, h, h01⟩ := I
  dsimp only at h h01
  unfold wpX_pairs wpY_pairs
  dsimp only
  by_cases hp : ∃ p, p < 3 ∧ v1 = nI p
  · obtain ⟨p, hp, rfl⟩ := hp
    refine xm_isProc1 hp (br_f (by decide) (xm_count hp (ym_badp1 hp (br_t rfl (ym_count hp ?_)))))
    rw [ph_cnt h hp]
    exact ⟨rfl, ph_mkR h h01⟩
  · have hp' : ∀ p, p < 3 → v1 ≠ nI p := fun p h3 e => hp ⟨p, h3, e⟩
    exact xm_isProc0 hp' (br_t rfl (ym_badp0 hp' (br_f (by decide) ⟨rfl, ph_mkR h h01⟩)))
theorem i_vc_blobs {k : Nat} {u : SX} {v : SY} (I : i_Rel k u v) (hk : k + 5 ≤ 2560) : wpX_blobs (fun r => wpY_blobs (fun r' => r' = r ∧ i_Rel (k + 5) u v) v) u := by
  obtain ⟨fc, K, V, M, U, F, J, C⟩ := u
  obtain ⟨ky, c, m, uy, R, D⟩ := v
  obtain ⟨sg, N, h, h01⟩ := I
  dsimp only at h h01
  obtain ⟨f, hf⟩ := ph_bex (fun j => ∃ q, q < 141 ∧ K q = 3 ∧ V q = nI j)
  refine xm_blobs (f := f) (fun j _ => hf j) (ym_blobs (f := f) (ph_hm h) h01 (fun j _ => (hf j).trans ?_) ⟨rfl, ph_mkR h h01⟩)
  have b := ph_blob h (nI j) (fun _ => True) (fun _ => True) (fun _ _ _ => Iff.rfl)
  constructor
  · intro ⟨q, hq, e1, e2⟩
    obtain ⟨y, hy, _, e3, e4, e5⟩ := b.mp ⟨q, hq, trivial, e1, e2⟩
    refine ⟨y, hy, fun z => ?_, e3, e4, e5⟩
    have w := nI_pos (n := y) (by omega)
    rw [z] at w
    exact w (by decide)
  · intro ⟨y, hy, _, e3, e4, e5⟩
    obtain ⟨q, hq, _, e1, e2⟩ := b.mpr ⟨y, hy, trivial, e3, e4, e5⟩
    exact ⟨q, hq, e1, e2⟩
end
section
/-! what is owed: same, receive, pair, send -/
theorem ph_sm {sg N : Nat → Nat} {K V U M k c u m : Nat → Int32} (h : ph_rel sg N K V U M k c u m) {p r s : Nat} (hp : p < 3) (hr : r < 4) (hs : s < 4) (ek : K (7 * p + r) = K (7 * p + s)) (hz : ¬ k (4 * p + r) = 0) : V (7 * p + r) = V (7 * p + s) ↔ c (4 * p + r) = c (4 * p + s) := by
  obtain ⟨e1, t1⟩ := ph_reg h hp hr
  obtain ⟨e2, t2⟩ := ph_reg h hp hs
  rw [← ek] at t2
  rcases t1 with ⟨a, b⟩ | ⟨a, b⟩ | ⟨a, b⟩ | ⟨a, x, hx, _, ux, vx, cx⟩
  · exact absurd (e1.trans a) hz
  · rcases t2 with ⟨a', b'⟩ | ⟨a', b'⟩ | ⟨a', b'⟩ | ⟨a', b'⟩
    · rw [a] at a'; exact absurd a' (by decide)
    · rw [b, b']
    · rw [a] at a'; exact absurd a' (by decide)
    · rw [a] at a'; exact absurd a' (by decide)
  · rcases t2 with ⟨a', b'⟩ | ⟨a', b'⟩ | ⟨a', b'⟩ | ⟨a', b'⟩
    · rw [a] at a'; exact absurd a' (by decide)
    · rw [a] at a'; exact absurd a' (by decide)
    · rw [b, b']
    · rw [a] at a'; exact absurd a' (by decide)
  · rcases t2 with ⟨a', b'⟩ | ⟨a', b'⟩ | ⟨a', b'⟩ | ⟨a', y, hy, _, uy, vy, cy⟩
    · rw [a] at a'; exact absurd a' (by decide)
    · rw [a] at a'; exact absurd a' (by decide)
    · rw [a] at a'; exact absurd a' (by decide)
    · have gx := (h.2.1 x hx ux).1
      have gy := (h.2.1 y hy uy).1
      rw [vx, vy, cx, cy]
      constructor
      · intro z
        rw [ph_inj (by omega) (by omega) z]
      · intro z
        rw [h.2.2.1 x y hx hy ux uy (ph_inj (by omega) (by omega) z)]
theorem i_vc_same {k : Nat} {u : SX} {v : SY} (I : i_Rel k u v) (hk : k + 5 ≤ 2560) (v1 : Int32) (v2 : Int32) (v3 : Int32) : wpX_same (fun r => wpY_same (fun r' => r' = r ∧ i_Rel (k + 5) u v) v v1 v2 v3) u v1 v2 v3 := by
  obtain ⟨fc, K, V, M, U, F, J, C⟩ := u
  obtain ⟨ky, c, m, uy, R, D⟩ := v
  obtain ⟨sg, N, h, h01⟩ := I
  dsimp only at h h01
  unfold wpX_same wpY_same
  dsimp only
  by_cases hr : ∃ p r, p < 3 ∧ r < 4 ∧ v1 = nI p ∧ v2 = nI r
  · obtain ⟨p, r, hp, hr, rfl, rfl⟩ := hr
    by_cases hs : ∃ s, s < 4 ∧ v3 = nI s
    · obtain ⟨s, hs, rfl⟩ := hs
      have i1 : vp_in (nI (7 * p + r)) 141 := vp_in_nI (by omega) (by decide)
      have i2 : vp_in (nI (7 * p + s)) 141 := vp_in_nI (by omega) (by decide)
      have j1 : vp_in (nI (4 * p + r)) 141 := vp_in_nI (by omega) (by decide)
      have j2 : vp_in (nI (4 * p + s)) 141 := vp_in_nI (by omega) (by decide)
      have q1 : (nI (4 * p + r)).toNatClampNeg = 4 * p + r := nI_clamp (by omega)
      have q2 : (nI (4 * p + s)).toNatClampNeg = 4 * p + s := nI_clamp (by omega)
      have t1 := ph_reg h hp hr
      have t2 := ph_reg h hp hs
      have Y : ∀ r0 : Int32, (K (7 * p + r) = K (7 * p + s) ∧ V (7 * p + r) = V (7 * p + s) → r0 = 1) → (¬ (K (7 * p + r) = K (7 * p + s) ∧ V (7 * p + r) = V (7 * p + s)) → r0 = 0) → wpY_same (fun r' => r' = r0 ∧ i_Rel (k + 5) (fc, K, V, M, U, F, J, C) (ky, c, m, uy, R, D)) (ky, c, m, uy, R, D) (nI p) (nI r) (nI s) := by
        intro r0 g1 g0
        unfold wpY_same
        dsimp only
        refine ym_bad1 hp hr (br_t rfl (ym_bad1 hp hs (br_t rfl (nm_r (ym_e4 p r) (nm_r (ym_e4 p s) ⟨j1, j2, ?_⟩)))))
        rw [q1, q2]
        by_cases ek : ky (4 * p + r) = ky (4 * p + s)
        · have ek' : K (7 * p + r) = K (7 * p + s) := t1.1.symm.trans (ek.trans t2.1)
          refine br_t ek ⟨j1, ?_⟩
          by_cases z : ky (4 * p + r) = 0
          · refine br_t z ⟨(g1 ⟨ek', ?_⟩).symm, ph_mkR h h01⟩
            have z1 : K (7 * p + r) = 0 := t1.1.symm.trans z
            have z2 : K (7 * p + s) = 0 := ek'.symm.trans z1
            have w1 : V (7 * p + r) = 0 := by
              rcases t1.2 with w | w | w | w
              · exact w.2
              · rw [z1] at w; exact absurd w.1 (by decide)
              · rw [z1] at w; exact absurd w.1 (by decide)
              · rw [z1] at w; exact absurd w.1 (by decide)
            have w2 : V (7 * p + s) = 0 := by
              rcases t2.2 with w | w | w | w
              · exact w.2
              · rw [z2] at w; exact absurd w.1 (by decide)
              · rw [z2] at w; exact absurd w.1 (by decide)
              · rw [z2] at w; exact absurd w.1 (by decide)
            exact w1.trans w2.symm
          · refine br_f z ⟨j1, j2, ?_⟩
            have sm := ph_sm h hp hr hs ek' z
            by_cases ec : c (4 * p + r) = c (4 * p + s)
            · exact br_t ec ⟨(g1 ⟨ek', sm.mpr ec⟩).symm, ph_mkR h h01⟩
            · exact br_f ec ⟨(g0 (fun w => ec (sm.mp w.2))).symm, ph_mkR h h01⟩
        · exact br_f ek ⟨(g0 (fun w => ek (t1.1.trans (w.1.trans t2.1.symm)))).symm, ph_mkR h h01⟩
      unfold wpY_same at Y
      dsimp only at Y
      refine xm_isReg1 hp hr (br_f (by decide) (xm_isReg1 hp hs (br_f (by decide) (xm_reg (xm_reg ⟨i1, i2, ?_⟩)))))
      rw [nI_clamp (n := 7 * p + r) (by omega), nI_clamp (n := 7 * p + s) (by omega)]
      by_cases ek : K (7 * p + r) = K (7 * p + s)
      · refine br_t ek ⟨i1, i2, ?_⟩
        by_cases ev : V (7 * p + r) = V (7 * p + s)
        · exact br_t ev (Y 1 (fun _ => rfl) (fun z => absurd ⟨ek, ev⟩ z))
        · exact br_f ev (Y 0 (fun z => absurd z.2 ev) (fun _ => rfl))
      · exact br_f ek (Y 0 (fun z => absurd z.1 ek) (fun _ => rfl))
    · have hs' : ¬ ∃ p' r', p' < 3 ∧ r' < 4 ∧ nI p = nI p' ∧ v3 = nI r' := fun ⟨_, r', _, hr', _, e⟩ => hs ⟨r', hr', e⟩
      exact xm_isReg1 hp hr (br_f (by decide) (xm_isReg0 hs' (br_t rfl (ym_bad1 hp hr (br_t rfl (ym_bad0 hs' (br_f (by decide) ⟨rfl, ph_mkR h h01⟩)))))))
  · exact xm_isReg0 hr (br_t rfl (ym_bad0 hr (br_f (by decide) ⟨rfl, ph_mkR h h01⟩)))
theorem i_vc_receive {k : Nat} {u : SX} {v : SY} (I : i_Rel k u v) (hk : k + 5 ≤ 2560) (v1 : Int32) (v2 : Int32) : wpX_receive (fun r u' => wpY_receive (fun r' v' => r' = r ∧ i_Rel (k + 5) u' v') v v1 v2) u v1 v2 := by
  obtain ⟨fc, K, V, M, U, F, J, C⟩ := u
  obtain ⟨ky, c, m, uy, R, D⟩ := v
  obtain ⟨sg, N, h, h01⟩ := I
  dsimp only at h h01
  unfold wpX_receive wpY_receive
  dsimp only
  by_cases hr : ∃ p r, p < 3 ∧ r < 4 ∧ v1 = nI p ∧ v2 = nI r
  · obtain ⟨p, r, hp, hr, rfl, rfl⟩ := hr
    obtain ⟨n3, eM, em⟩ := h.1 p hp
    have ip : vp_in (nI p) 3 := vp_in_nI hp (by decide)
    have ep : (nI p).toNatClampNeg = p := nI_clamp (by omega)
    have eb : 12 + 3 * nI p = nI (12 + 3 * p) := by
      rw [show (12 : Int32) = nI 12 from rfl, show (3 : Int32) = nI 3 from rfl, pk_mul, nI_add]
    rw [ep, eb]
    refine xm_isReg1 hp hr (br_f (by decide) ⟨ip, ?_⟩)
    rw [eM, em]
    refine pk_lt 0 (N p) (fun hn => ?_) (fun hn => ?_)
    · have e1 : nI (N p) - 1 = nI (N p - 1) := by
        rw [show N p = N p - 1 + 1 by omega, nI_pred]
        rfl
      refine xm_reg (xm_mailc (j := 0) ⟨vp_in_nI (by omega) (by decide), vp_in_nI (by omega) (by decide), ?_⟩)
      rw [nI_clamp (n := 7 * p + 4 + 0) (by omega)]
      refine xm_set (by omega) ?_
      dsimp only
      refine xm_drop hp ?_
      dsimp only
      rw [eM, e1]
      refine ym_bad1 hp hr (br_t rfl ⟨ip, br_f (nI_ne0 hn (by omega)) (nm_e ?_)⟩)
      rw [ym_e4 p r, nI_1 (12 + 3 * p), show nI (12 + 3 * p) + 2 = nI (12 + 3 * p + 1 + 1) from nI_add (12 + 3 * p) 2]
      refine ym_take (by omega) (by omega) ?_
      dsimp only
      refine ym_take (by omega) (by omega) ?_
      dsimp only
      refine ym_take (by omega) (by omega) ?_
      dsimp only
      refine ⟨ip, ip, nm_r (e' := upd m p (nI (N p - 1))) ?_ ⟨rfl, ?_⟩⟩
      · rw [em, e1]
      · have h1 := ph_setr h hp hr (ph_mail h (j := 0) hp hn)
        refine ph_mkR (ph_shift h1 hp hn (fun j hj => ⟨ph_sh_j hj, ph_sh_j hj⟩) ⟨ph_sh_2, ph_sh_2⟩ (fun q _ hq => ⟨ph_sh_n hq, ph_sh_n hq⟩) (fun j hj => ?_) (fun y _ hy => ?_)) h01
        · by_cases e : j = 0
          · subst e
            exact ⟨(pk_un (by omega)).trans pk_us, (pk_un (by omega)).trans pk_us⟩
          · have e : j = 1 := by omega
            subst e
            exact ⟨pk_us.trans (pk_un (by omega)), pk_us.trans (pk_un (by omega))⟩
        · have y0 := hy 0 (by omega)
          have y1 := hy 1 (by omega)
          exact ⟨(pk_un (by omega)).trans (pk_un (by omega)), (pk_un (by omega)).trans (pk_un (by omega))⟩
    · have e0 : N p = 0 := by omega
      rw [e0]
      exact ym_bad1 hp hr (br_t rfl ⟨ip, br_t rfl ⟨rfl, ph_mkR h h01⟩⟩)
  · exact xm_isReg0 hr (br_t rfl (ym_bad0 hr (br_f (by decide) ⟨rfl, ph_mkR h h01⟩)))
theorem i_vc_pair {k : Nat} {u : SX} {v : SY} (I : i_Rel k u v) (hk : k + 5 ≤ 2560) (v1 : Int32) (v2 : Int32) (v3 : Int32) (v4 : Int32) : wpX_pair (fun r u' => wpY_pair (fun r' v' => r' = r ∧ i_Rel (k + 5) u' v') v v1 v2 v3 v4) u v1 v2 v3 v4 := by
  obtain ⟨fc, K, V, M, U, F, J, C⟩ := u
  obtain ⟨ky, c, m, uy, R, D⟩ := v
  obtain ⟨sg, N, h, h01⟩ := I
  dsimp only at h h01
  unfold wpX_pair wpY_pair
  dsimp only
  by_cases hr : ∃ p r, p < 3 ∧ r < 4 ∧ v1 = nI p ∧ v2 = nI r
  · obtain ⟨p, r, hp, hr, rfl, rfl⟩ := hr
    by_cases hs : ∃ s, s < 4 ∧ v3 = nI s
    · obtain ⟨s, hs, rfl⟩ := hs
      by_cases ht : ∃ t, t < 4 ∧ v4 = nI t
      · obtain ⟨t, ht, rfl⟩ := ht
        rw [ym_e4 p r, ym_e4 p s, ym_e4 p t]
        refine xm_isReg1 hp hr (br_f (by decide) (xm_isReg1 hp hs (br_f (by decide) (xm_isReg1 hp ht (br_f (by decide) (xm_room (n := 1) hp (by omega) (ph_hg h) (fun fc' K' V' U' F' I' hx hc => ?_) (fun fc' K' V' U' F' I' hx hc => ?_)))))))
        · dsimp only
          refine br_f (by decide) (xm_take hp (by omega) (fun a a1 a2 a3 => ?_))
          dsimp only
          refine xm_head (xm_reg (xm_reg (xm_reg ⟨vp_in_nI (by omega) (by decide), vp_in_nI (by omega) (by decide), ?_⟩)))
          rw [nI_clamp (n := 7 * p + s) (by omega), nI_clamp (n := 7 * p + t) (by omega), nI_1 (21 + 2 * a)]
          refine xm_set (by omega) ?_
          dsimp only
          refine ⟨vp_in_nI (by omega) (by decide), vp_in_nI (by omega) (by decide), ?_⟩
          rw [pk_un (show 7 * p + t ≠ 21 + 2 * a by omega), pk_un (show 7 * p + t ≠ 21 + 2 * a by omega)]
          refine xm_set (by omega) ?_
          dsimp only
          refine xm_set (by omega) ?_
          dsimp only
          refine ym_bad1 hp hr (br_t rfl (ym_bad1 hp hs (br_t rfl (ym_bad1 hp ht (br_t rfl (ym_room (n := 1) hp (by omega) (ph_hm h) h01 (fun y hy hth k2 => ph_gy h hy hth k2) (fun u' R' h01' hy hc' => ?_) (fun u' R' h01' hy hc' => ?_)))))))
          · have h' := ph_room2 h hp hx hy
            dsimp only
            refine br_f (by decide) (ym_unused hp (by omega) (fun b b1 b2 b3 => ⟨vp_in_nI (by omega) (by decide), ?_⟩))
            rw [nI_clamp (n := b) (by omega), xm_n1, xm_e21, ym_e22]
            refine nm_e (ym_take (by omega) (by omega) ?_)
            dsimp only
            refine ym_take (by omega) (by omega) ?_
            dsimp only
            rw [pk_un (show 4 * p + t ≠ 21 + 2 * b by omega), pk_un (show 4 * p + t ≠ 21 + 2 * b by omega)]
            refine ym_set (by omega) ⟨rfl, ?_⟩
            obtain ⟨sg', es, h2⟩ := ph_pair h' (sx := a) (sy := b) (by omega) (p := p) (by omega) a3 (by omega) (by omega) b3 (x0 := 1) (by decide) (ph_reg h' hp hs) (ph_reg h' hp ht)
            have tm : ph_tm sg' (upd U' a 1) p 2 (nI a) 2 (nI (sg' a)) := ph_tm_pair (by omega) (by omega) (by rw [pk_us]; decide)
            rw [es] at tm
            exact ph_mkR (ph_setr h2 hp hr tm) (ph_01_u h01' (Or.inr rfl))
          · have h' := ph_room2 h hp hx hy
            rw [← ph_cnt h' hp] at hc'
            exact absurd hc hc'
        · dsimp only
          refine br_t (by decide) ?_
          refine ym_bad1 hp hr (br_t rfl (ym_bad1 hp hs (br_t rfl (ym_bad1 hp ht (br_t rfl (ym_room (n := 1) hp (by omega) (ph_hm h) h01 (fun y hy hth k2 => ph_gy h hy hth k2) (fun u' R' h01' hy hc' => ?_) (fun u' R' h01' hy hc' => ?_)))))))
          · have h' := ph_room2 h hp hx hy
            rw [← ph_cnt h' hp] at hc'
            exact absurd hc' hc
          · exact br_t rfl ⟨rfl, ph_mkR (ph_room2 h hp hx hy) h01'⟩
      · have ht' : ¬ ∃ p' r', p' < 3 ∧ r' < 4 ∧ nI p = nI p' ∧ v4 = nI r' := fun ⟨_, r', _, hr', _, e⟩ => ht ⟨r', hr', e⟩
        exact xm_isReg1 hp hr (br_f (by decide) (xm_isReg1 hp hs (br_f (by decide) (xm_isReg0 ht' (br_t rfl (ym_bad1 hp hr (br_t rfl (ym_bad1 hp hs (br_t rfl (ym_bad0 ht' (br_f (by decide) ⟨rfl, ph_mkR h h01⟩)))))))))))
    · have hs' : ¬ ∃ p' r', p' < 3 ∧ r' < 4 ∧ nI p = nI p' ∧ v3 = nI r' := fun ⟨_, r', _, hr', _, e⟩ => hs ⟨r', hr', e⟩
      exact xm_isReg1 hp hr (br_f (by decide) (xm_isReg0 hs' (br_t rfl (ym_bad1 hp hr (br_t rfl (ym_bad0 hs' (br_f (by decide) ⟨rfl, ph_mkR h h01⟩)))))))
  · exact xm_isReg0 hr (br_t rfl (ym_bad0 hr (br_f (by decide) ⟨rfl, ph_mkR h h01⟩)))
theorem i_vc_send {k : Nat} {u : SX} {v : SY} (I : i_Rel k u v) (hk : k + 5 ≤ 2560) (v1 : Int32) (v2 : Int32) (v3 : Int32) : wpX_send (fun r u' => wpY_send (fun r' v' => r' = r ∧ i_Rel (k + 5) u' v') v v1 v2 v3) u v1 v2 v3 := by
  obtain ⟨fc, K, V, M, U, F, J, C⟩ := u
  obtain ⟨ky, c, m, uy, R, D⟩ := v
  obtain ⟨sg, N, h, h01⟩ := I
  dsimp only at h h01
  unfold wpX_send wpY_send
  dsimp only
  by_cases hr : ∃ p r, p < 3 ∧ r < 4 ∧ v1 = nI p ∧ v2 = nI r
  · obtain ⟨p, r, hp, hr, rfl, rfl⟩ := hr
    by_cases ht : ∃ to, to < 3 ∧ v3 = nI to
    · obtain ⟨to, hto, rfl⟩ := ht
      obtain ⟨n3, eM, em⟩ := h.1 to hto
      have ip : vp_in (nI to) 3 := vp_in_nI hto (by decide)
      have et : (nI to).toNatClampNeg = to := nI_clamp (by omega)
      rw [et, ym_e4 p r]
      refine xm_isReg1 hp hr (br_f (by decide) (xm_isProc1 hto (br_f (by decide) ⟨ip, ?_⟩)))
      rw [eM, em]
      refine pk_lt (N to) 3 (fun hn => ?_) (fun hn => ?_)
      · have gyf : ∀ {K V U u' : Nat → Int32}, ph_rel sg N K V U M ky c u' m → ky (4 * p + r) = 2 → ∃ t, t < 60 ∧ c (4 * p + r) = nI t ∧ ¬ u' t = 0 := by
          intro K V U u' g k2
          exact ph_gy g (by omega) (Or.inl (by omega)) k2
        refine xm_reg (xm_find (cn := 1) (by omega) (ph_hg h) (fun I1 F1 n1 hl1 hf1 => ?_))
        dsimp only
        refine xm_room (n := n1) hto (ph_li_60 hl1) (ph_hg h) (fun fc' K' V' U' F' I' hx hc => ?_) (fun fc' K' V' U' F' I' hx hc => ?_)
        · obtain ⟨ux, hX⟩ := ph_xm_rel h hto hx
          dsimp only
          refine br_f (by decide) (xm_find (cn := 1) (by omega) (ph_hg hX) (fun I2 F2 n2 hl2 hf2 => ?_))
          dsimp only
          have n21 : n2 ≤ n1 := by
            rw [hl2.1, hl1.1]
            exact ph_xm_le (by omega) hx hf1 hf2
          have inp := ph_inp hX (p := p) hf2 (by
            intro s hs ⟨j, hj, ho⟩
            obtain ⟨s', hs', o, uu, e⟩ := ph_gx hX (q := 7 * p + r + j) (by omega) ho.1
            have : s' = s := ph_inj (by omega) (by omega) (e.symm.trans ho.2)
            subst this
            have j0 : j = 0 := by omega
            subst j0
            exact ⟨o.trans (ph_own_pl hp (i := r) (by omega)), uu⟩)
          refine xm_copy hto hl2 (by omega) (ph_hg hX) (fun s hs z => (inp s hs z).2) (fun C' U1 K1 V1 aX cX => ?_)
          dsimp only
          refine ⟨ip, ?_⟩
          rw [eM]
          refine xm_mailc ?_
          have kq := cX.2 (7 * p + r) (by omega) (fun s a b _ _ _ _ _ => by omega)
          refine xm_stc (by omega) (by omega) (fun z => ?_) ?_
          · obtain ⟨s, hs, e⟩ := ph_hg hX (7 * p + r) (by omega) (kq.1.symm.trans z)
            exact ⟨s, hs, kq.2.trans e⟩
          dsimp only
          refine ⟨ip, ip, ?_⟩
          rw [eM, nI_1 (N to)]
          refine nm_e ?_
          rw [ph_cv_cg kq, kq.1]
          refine ym_bad1 hp hr (br_t rfl (ym_badp1 hto (br_t rfl ⟨ip, br_f (fun z => ?_) (nm_e (ym_mark (by omega) (gyf h) (fun t b h1 h2 h3 h4 => ph_gys h h1 h2 h3 h4) (fun R1 hR1 => ?_)))⟩)))
          · have := ph_inj (b := 3) (by omega) (by omega) z
            omega
          dsimp only
          refine ym_found ?_
          obtain ⟨c1, c2⟩ := ph_one h hp hr hf1 hR1
          have cnt : ph_ct R1 0 60 = n1 := by
            rw [hl1.1]
            exact (ph_fnd h c1 c2).symm
          rw [cnt]
          refine ym_room hto (ph_li_60 hl1) (ph_hm h) h01 (fun y hy hth k2 => ph_gy h hy hth k2) (fun u' R' h01' hy hc' => ?_) (fun u' R' h01' hy hc' => ?_)
          · have h' := ph_room2 h hto hx hy
            dsimp only
            refine br_f (by decide) (ym_mark (by omega) (gyf h') (fun t b h1 h2 h3 h4 => ph_gys h' h1 h2 h3 h4) (fun R2 hR2 => ?_))
            dsimp only
            obtain ⟨d1, d2⟩ := ph_one h' hp hr hf2 hR2
            have ru : ∀ t, t < 60 → ¬ R2 t = 0 → ¬ u' t = 0 := by
              intro t h60 z
              obtain ⟨s, hs, us, _, e⟩ := d2 t h60 z
              rw [← e]
              exact (h'.2.1 s hs us).2.2
            have c2n : ph_ct R2 0 60 = n1 := (ph_lf_ct hR1 hR2).trans cnt
            refine ym_send hto (by omega) ⟨hn, em⟩ h01' (by omega) ru (fun t b h1 h2 h3 h4 => ?_) (fun k2 => ?_) (fun D' u1 k1 c1 h01u aY cY => ⟨rfl, ?_⟩)
            · obtain ⟨t', g1, g2, _⟩ := ph_gys h' h1 h2 (ru t h1 h3) h4
              exact ⟨t', g1, g2⟩
            · obtain ⟨t', g1, g2, _⟩ := gyf h' k2
              exact ⟨t', g1, g2⟩
            · obtain ⟨sg', N', h2⟩ := ph_send2 h' hp hr hto hn hf2 hR2 aX aY cX cY
              exact ph_mkR h2 h01u
          · have h' := ph_room2 h hto hx hy
            rw [← ph_cnt h' hto] at hc'
            exact absurd hc hc'
        · dsimp only
          refine br_t (by decide) ?_
          refine ym_bad1 hp hr (br_t rfl (ym_badp1 hto (br_t rfl ⟨ip, br_f (fun z => ?_) (nm_e (ym_mark (by omega) (gyf h) (fun t b h1 h2 h3 h4 => ph_gys h h1 h2 h3 h4) (fun R1 hR1 => ?_)))⟩)))
          · have := ph_inj (b := 3) (by omega) (by omega) z
            omega
          dsimp only
          refine ym_found ?_
          obtain ⟨c1, c2⟩ := ph_one h hp hr hf1 hR1
          have cnt : ph_ct R1 0 60 = n1 := by
            rw [hl1.1]
            exact (ph_fnd h c1 c2).symm
          rw [cnt]
          refine ym_room hto (ph_li_60 hl1) (ph_hm h) h01 (fun y hy hth k2 => ph_gy h hy hth k2) (fun u' R' h01' hy hc' => ?_) (fun u' R' h01' hy hc' => ?_)
          · have h' := ph_room2 h hto hx hy
            rw [← ph_cnt h' hto] at hc'
            exact absurd hc' hc
          · exact br_t rfl ⟨rfl, ph_mkR (ph_room2 h hto hx hy) h01'⟩
      · have e3 : N to = 3 := by omega
        rw [e3]
        exact ym_bad1 hp hr (br_t rfl (ym_badp1 hto (br_t rfl ⟨ip, br_t rfl ⟨rfl, ph_mkR h h01⟩⟩)))
    · have ht' : ∀ p, p < 3 → v3 ≠ nI p := fun p h3 e => ht ⟨p, h3, e⟩
      exact xm_isReg1 hp hr (br_f (by decide) (xm_isProc0 ht' (br_t rfl (ym_bad1 hp hr (br_t rfl (ym_badp0 ht' (br_f (by decide) ⟨rfl, ph_mkR h h01⟩)))))))
  · exact xm_isReg0 hr (br_t rfl (ym_bad0 hr (br_f (by decide) ⟨rfl, ph_mkR h h01⟩)))
end
