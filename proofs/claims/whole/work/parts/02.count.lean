/-! counts of true cells; least closed sets -/
theorem ph_inj {a b : Nat} (ha : a < 1000) (hb : b < 1000) (h : nI a = nI b) : a = b := (nI_eq (by omega) (by omega)).mp h
def ph_ct (P : Nat → Int32) (a : Nat) : Nat → Nat
  | 0 => 0
  | n + 1 => ph_ct P a n + (if P (a + n) = 0 then 0 else 1)
theorem ph_ct_s0 {P : Nat → Int32} {a n : Nat} (h : P (a + n) = 0) : ph_ct P a (n + 1) = ph_ct P a n := by
  show ph_ct P a n + (if P (a + n) = 0 then 0 else 1) = _
  rw [if_pos h]
  rfl
theorem ph_ct_s1 {P : Nat → Int32} {a n : Nat} (h : ¬ P (a + n) = 0) : ph_ct P a (n + 1) = ph_ct P a n + 1 := by
  show ph_ct P a n + (if P (a + n) = 0 then 0 else 1) = _
  rw [if_neg h]
theorem ph_ct_le (P : Nat → Int32) (a n : Nat) : ph_ct P a n ≤ n := by
  induction n with
  | zero => exact Nat.le_refl 0
  | succ n ih =>
    by_cases h : P (a + n) = 0
    · rw [ph_ct_s0 h]; omega
    · rw [ph_ct_s1 h]; omega
theorem ph_ct_cg {P Q : Nat → Int32} {a n : Nat} (h : ∀ i, i < n → (P (a + i) = 0 ↔ Q (a + i) = 0)) : ph_ct P a n = ph_ct Q a n := by
  induction n with
  | zero => rfl
  | succ n ih =>
    have e := ih (fun i hi => h i (by omega))
    by_cases z : P (a + n) = 0
    · rw [ph_ct_s0 z, ph_ct_s0 ((h n (by omega)).mp z), e]
    · rw [ph_ct_s1 z, ph_ct_s1 (fun w => z ((h n (by omega)).mpr w)), e]
theorem ph_ct_set {P : Nat → Int32} {a s : Nat} {x : Int32} (hx : ¬ x = 0) (h0 : P s = 0) : ∀ n, a ≤ s → s < a + n → ph_ct (upd P s x) a n = ph_ct P a n + 1 := by
  intro n
  induction n with
  | zero => intro h1 h2; omega
  | succ n ih =>
    intro h1 h2
    by_cases e : s = a + n
    · have e1 : ph_ct (upd P s x) a n = ph_ct P a n := ph_ct_cg (fun i hi => by rw [pk_un (show a + i ≠ s by omega)])
      have e2 : ¬ upd P s x (a + n) = 0 := by rw [← e, pk_us]; exact hx
      have e3 : P (a + n) = 0 := by rw [← e]; exact h0
      rw [ph_ct_s1 e2, e1, ph_ct_s0 e3]
    · have e1 := ih h1 (by omega)
      have e2 : upd P s x (a + n) = P (a + n) := pk_un (fun z => e z.symm)
      by_cases z : P (a + n) = 0
      · rw [ph_ct_s0 (by rw [e2]; exact z), ph_ct_s0 z, e1]
      · rw [ph_ct_s1 (by rw [e2]; exact z), ph_ct_s1 z, e1]
theorem ph_ct_clr {Q : Nat → Int32} {b t : Nat} (h : ¬ Q t = 0) (n : Nat) (h1 : b ≤ t) (h2 : t < b + n) : ph_ct Q b n = ph_ct (upd Q t 0) b n + 1 := by
  have e := ph_ct_set (P := upd Q t 0) (a := b) (s := t) (x := Q t) h pk_us n h1 h2
  rw [← e]
  apply ph_ct_cg
  intro i _
  by_cases z : b + i = t
  · rw [z, pk_us]
  · rw [pk_un z, pk_un z]
theorem ph_ct_lt {P : Nat → Int32} {a n s : Nat} (h0 : P s = 0) (h1 : a ≤ s) (h2 : s < a + n) : ph_ct P a n < n := by
  have e := ph_ct_set (x := 1) (by decide) h0 n h1 h2
  have := ph_ct_le (upd P s 1) a n
  omega
theorem ph_ct_ex {P : Nat → Int32} {a n : Nat} (h : ph_ct P a n < n) : ∃ s, a ≤ s ∧ s < a + n ∧ P s = 0 := by
  induction n with
  | zero => omega
  | succ n ih =>
    by_cases z : P (a + n) = 0
    · exact ⟨a + n, by omega, by omega, z⟩
    · rw [ph_ct_s1 z] at h
      obtain ⟨s, h1, h2, h3⟩ := ih (by omega)
      exact ⟨s, h1, by omega, h3⟩
theorem ph_ct_inj {P : Nat → Int32} {a : Nat} (f : Nat → Nat) (b m : Nat) : ∀ (n : Nat) (Q : Nat → Int32), (∀ i, a ≤ i → i < a + n → ¬ P i = 0 → b ≤ f i ∧ f i < b + m ∧ ¬ Q (f i) = 0) → (∀ i j, a ≤ i → i < a + n → a ≤ j → j < a + n → ¬ P i = 0 → ¬ P j = 0 → f i = f j → i = j) → ph_ct P a n ≤ ph_ct Q b m := by
  intro n
  induction n with
  | zero => intro Q _ _; exact Nat.zero_le _
  | succ n ih =>
    intro Q h1 h2
    by_cases z : P (a + n) = 0
    · rw [ph_ct_s0 z]
      exact ih Q (fun i x y w => h1 i x (by omega) w) (fun i j x y x' y' w w' e => h2 i j x (by omega) x' (by omega) w w' e)
    · obtain ⟨g1, g2, g3⟩ := h1 (a + n) (by omega) (by omega) z
      rw [ph_ct_s1 z, ph_ct_clr g3 m g1 g2]
      have := ih (upd Q (f (a + n)) 0) (fun i x y w => by
        obtain ⟨k1, k2, k3⟩ := h1 i x (by omega) w
        refine ⟨k1, k2, ?_⟩
        rw [pk_un (fun e => by have := h2 i (a + n) x (by omega) (by omega) (by omega) w z e; omega)]
        exact k3) (fun i j x y x' y' w w' e => h2 i j x (by omega) x' (by omega) w w' e)
      omega
theorem ph_ct_bij {P Q : Nat → Int32} {a n b m : Nat} (f : Nat → Nat) (h1 : ∀ i, a ≤ i → i < a + n → ¬ P i = 0 → b ≤ f i ∧ f i < b + m ∧ ¬ Q (f i) = 0) (h2 : ∀ i j, a ≤ i → i < a + n → a ≤ j → j < a + n → ¬ P i = 0 → ¬ P j = 0 → f i = f j → i = j) (h3 : ∀ t, b ≤ t → t < b + m → ¬ Q t = 0 → ∃ i, a ≤ i ∧ i < a + n ∧ ¬ P i = 0 ∧ f i = t) : ph_ct P a n = ph_ct Q b m := by
  apply Nat.le_antisymm (ph_ct_inj f b m n Q h1 h2)
  have hg : ∀ t, ∃ i, b ≤ t → t < b + m → ¬ Q t = 0 → (a ≤ i ∧ i < a + n ∧ ¬ P i = 0 ∧ f i = t) := by
    intro t
    by_cases w : b ≤ t ∧ t < b + m ∧ ¬ Q t = 0
    · obtain ⟨i, hi⟩ := h3 t w.1 w.2.1 w.2.2
      exact ⟨i, fun _ _ _ => hi⟩
    · exact ⟨0, fun x y z => absurd ⟨x, y, z⟩ w⟩
  obtain ⟨g, hg⟩ := Classical.axiomOfChoice hg
  exact ph_ct_inj g a n m P (fun t x y z => ⟨(hg t x y z).1, (hg t x y z).2.1, (hg t x y z).2.2.1⟩) (fun t t' x y x' y' z z' e => (hg t x y z).2.2.2.symm.trans ((congrArg f e).trans (hg t' x' y' z').2.2.2))
/-- cell q holds the pair of slot t -/
def ph_ho (K V : Nat → Int32) (q t : Nat) : Prop := K q = 2 ∧ V q = nI t
/-- a set of slots that holds what its pairs hold -/
def ph_cl (K V : Nat → Int32) (S : Nat → Prop) : Prop := ∀ s b t, s < 60 → b < 2 → t < 60 → S s → ph_ho K V (21 + 2 * s + b) t → S t
/-- S is the least closed set over the roots R -/
def ph_lf (K V : Nat → Int32) (R S : Nat → Prop) : Prop := (∀ t, t < 60 → R t → S t) ∧ ph_cl K V S ∧ ∀ S' : Nat → Prop, (∀ t, t < 60 → R t → S' t) → ph_cl K V S' → ∀ t, t < 60 → S t → S' t
theorem ph_ho_inj {K V : Nat → Int32} {q t t' : Nat} (ht : t < 60) (ht' : t' < 60) (h : ph_ho K V q t) (h' : ph_ho K V q t') : t = t' := ph_inj (by omega) (by omega) (h.2.symm.trans h'.2)
/-- 20 - n against a count, as naturals -/
theorem ph_room {c n : Nat} (hc : c ≤ 60) (hn : n ≤ 60) : (nI c ≤ 20 - nI n) ↔ c + n ≤ 20 := by
  rw [show (20 : Int32) = nI 20 from rfl, Int32.le_iff_toInt_le, pk_sub_toInt (by omega) (by omega), nI_toInt (by omega)]
  omega
