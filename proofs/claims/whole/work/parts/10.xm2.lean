/-! X: room, copies, mail -/
theorem ph_al_cg {U0 C U' : Nat → Int32} {p : Nat} {D D' : Nat → Prop} (hD : ∀ s, s < 60 → (D s ↔ D' s)) (h : ph_al U0 p D C U') : ph_al U0 p D' C U' := by
  obtain ⟨h1, h2, h3⟩ := h
  refine ⟨fun s hs d => h1 s hs ((hD s hs).mpr d), fun s s' hs hs' d d' e => h2 s s' hs hs' ((hD s hs).mpr d) ((hD s' hs').mpr d') e, fun a ha => (h3 a ha).trans ⟨fun z => ?_, fun z => ?_⟩⟩
  · exact z.elim Or.inl (fun ⟨s, hs, d, e⟩ => Or.inr ⟨s, hs, (hD s hs).mp d, e⟩)
  · exact z.elim Or.inl (fun ⟨s, hs, d, e⟩ => Or.inr ⟨s, hs, (hD s hs).mpr d, e⟩)
theorem ph_cp_cg {K V C K' V' : Nat → Int32} {D D' : Nat → Prop} (hD : ∀ s, s < 60 → (D s ↔ D' s)) (h : ph_cp K V C D K' V') : ph_cp K V C D' K' V' :=
  ⟨fun s a b hs ha hb d e => h.1 s a b hs ha hb ((hD s hs).mpr d) e, fun q hq hn => h.2 q hq (fun s a b hs ha hb d e => hn s a b hs ha hb ((hD s hs).mp d) e)⟩
theorem ph_cp_k {K V C K' V' : Nat → Int32} {D : Nat → Prop} (h : ph_cp K V C D K' V') {x b : Nat} (hx : x < 60) (hb : b < 2) (hn : ∀ s a, s < 60 → a < 60 → D s → C s = nI a → a ≠ x) : K' (21 + 2 * x + b) = K (21 + 2 * x + b) ∧ V' (21 + 2 * x + b) = V (21 + 2 * x + b) :=
  h.2 _ (by omega) (fun s a b' hs ha hb' d e => by
    have := hn s a hs ha d e
    omega)
theorem ph_cv_cg {K V C K' V' : Nat → Int32} {q : Nat} (h : K' q = K q ∧ V' q = V q) : ph_cv K' V' C q = ph_cv K V C q := by
  unfold ph_cv
  rw [h.1, h.2]
section
variable {fc : Int32} {K V M U F I C : Nat → Int32}
theorem xm_room {post : Int32 → SX → Prop} {p n : Nat} (hp : p < 3) (hn : n ≤ 60) (hg : ∀ q, q < 141 → K q = 2 → ∃ s, s < 60 ∧ V q = nI s) (h1 : ∀ fc' K' V' U' F' I', ph_xm p n K V U K' V' U' → ph_ct U' (20 * p) 20 + n ≤ 20 → post 1 (fc', K', V', M, U', F', I', C)) (h0 : ∀ fc' K' V' U' F' I', ph_xm p n K V U K' V' U' → ¬ ph_ct U' (20 * p) 20 + n ≤ 20 → post 0 (fc', K', V', M, U', F', I', C)) : wpX_makeRoom post (fc, K, V, M, U, F, I, C) (nI p) (nI n) := by
  have H : ∀ fc' K' V' U' F' I', ph_xm p n K V U K' V' U' → wX_makeRoom_17 post (nI p) (nI n) fc' K' V' M U' F' I' C := by
    intro fc' K' V' U' F' I' hm
    have hc : ph_ct U' (20 * p) 20 ≤ 60 := by have := ph_ct_le U' (20 * p) 20; omega
    unfold wX_makeRoom_17
    refine xm_count hp ?_
    by_cases z : ph_ct U' (20 * p) 20 + n ≤ 20
    · exact br_f (Int32.not_lt.mpr ((ph_room hc hn).mpr z)) (h1 _ _ _ _ _ _ hm z)
    · exact br_t (Int32.not_le.mp (fun w => z ((ph_room hc hn).mp w))) (h0 _ _ _ _ _ _ hm z)
  have hc : ph_ct U (20 * p) 20 ≤ 60 := by have := ph_ct_le U (20 * p) 20; omega
  unfold wpX_makeRoom
  dsimp only
  refine xm_count hp ?_
  by_cases z : ph_ct U (20 * p) 20 + n ≤ 20
  · exact br_t ((ph_room hc hn).mpr z) (H _ _ _ _ _ _ (Or.inl ⟨z, rfl, rfl, rfl⟩))
  · refine br_f (fun w => z ((ph_room hc hn).mp w)) ?_
    refine xm_clean hp hg (fun fc' K' V' U' F' I' hx => ?_)
    exact H _ _ _ _ _ _ (Or.inr ⟨z, hx⟩)
theorem xm_stc24 {post : SX → Prop} {a q : Nat} {y : Int32} (ha : a < 141) (hq : q < 141) (h : post (fc, upd K a (K q), upd V a y, M, U, F, I, C)) : wX_setToCopy_24 post (nI a) (nI q) y fc K V M U F I C := by
  unfold wX_setToCopy_24
  refine ⟨vp_in_nI hq (by decide), ?_⟩
  rw [nI_clamp (by omega)]
  exact xm_set ha h
theorem xm_stc {post : SX → Prop} {a q : Nat} (ha : a < 141) (hq : q < 141) (hg : K q = 2 → ∃ s, s < 60 ∧ V q = nI s) (h : post (fc, upd K a (K q), upd V a (ph_cv K V C q), M, U, F, I, C)) : wpX_setToCopy post (fc, K, V, M, U, F, I, C) (nI a) (nI q) := by
  have iq : vp_in (nI q) 141 := vp_in_nI hq (by decide)
  unfold wpX_setToCopy
  dsimp only
  refine ⟨iq, ?_⟩
  rw [nI_clamp (n := q) (by omega)]
  refine nm_e ⟨iq, ?_⟩
  by_cases k2 : K q = 2
  · obtain ⟨s, hs, hv⟩ := hg k2
    refine br_t k2 ⟨by rw [hv]; exact vp_in_nI hs (by decide), nm_r (e' := ph_cv K V C q) ?_ (xm_stc24 ha hq h)⟩
    unfold ph_cv
    rw [if_pos k2]
  · refine br_f k2 ?_
    rw [ph_cvn k2] at h
    exact xm_stc24 ha hq h
theorem xm_copy {post : SX → Prop} {to n : Nat} (hto : to < 3) (hl : ph_li I F n) (hroom : ph_ct U (20 * to) 20 + n ≤ 20) (hg : ∀ q, q < 141 → K q = 2 → ∃ s, s < 60 ∧ V q = nI s) (hus : ∀ s, s < 60 → ¬ I s = 0 → ¬ U s = 0) (h : ∀ C' U' K' V', ph_al U to (fun s => ¬ I s = 0) C' U' → ph_cp K V C' (fun s => ¬ I s = 0) K' V' → post (nI n, K', V', M, U', F, I, C')) : wpX_copyFound post (nI n, K, V, M, U, F, I, C) (nI to) := by
  have n60 := ph_li_60 hl
  have full : ∀ s, s < 60 → ((∃ j, j < n ∧ F j = nI s) ↔ ¬ I s = 0) := by
    intro s hs
    refine ⟨fun ⟨j, hj, e⟩ => ?_, fun z => hl.2.2.2 s hs z⟩
    obtain ⟨s', hs', e', z⟩ := hl.2.1 j hj
    have : s' = s := ph_inj (by omega) (by omega) (e'.symm.trans e)
    rw [← this]
    exact z
  have H2 : ∀ x i K' V' C' U', i ≤ n → n - i < x → ph_al U to (fun s => ¬ I s = 0) C' U' → ph_cp K V C' (fun s => ∃ j, j < i ∧ F j = nI s) K' V' → wX_copyFound_40 post x (nI i) (nI n) K' V' M U' F I C' := by
    intro x
    induction x with
    | zero => intro i _ _ _ _ _ h; omega
    | succ x ih =>
      intro i K' V' C' U' hi hx hal hcp
      have fin : n ≤ i → post (nI n, K', V', M, U', F, I, C') := by
        intro w
        have e : i = n := by omega
        subst e
        exact h C' U' K' V' hal (ph_cp_cg full hcp)
      refine pk_le 60 i (fun hle => fin (by omega)) (fun hlt => pk_le n i (fun hle => fin hle) (fun hlt' => ⟨vp_in_nI hlt (by decide), ?_⟩))
      obtain ⟨s, hs, hF, hI⟩ := hl.2.1 i hlt'
      obtain ⟨a, ha, hap, hCa, hUa⟩ := hal.1 s hs hI
      have sep : ∀ s' a', s' < 60 → a' < 60 → (∃ j, j < i ∧ F j = nI s') → C' s' = nI a' → a' ≠ s := by
        intro s' a' hs' ha' d e z
        have hI' : ¬ I s' = 0 := (full s' hs').mp (by obtain ⟨j, hj, w⟩ := d; exact ⟨j, by omega, w⟩)
        obtain ⟨a2, _, _, e2, u2⟩ := hal.1 s' hs' hI'
        have : a2 = a' := ph_inj (by omega) (by omega) (e2.symm.trans e)
        rw [this, z] at u2
        exact hus s hs hI u2
      have k0 := ph_cp_k hcp (b := 0) hs (by omega) sep
      have k1 := ph_cp_k hcp (b := 1) hs (by omega) sep
      rw [nI_clamp (n := i) (by omega), hF]
      refine xm_head ⟨vp_in_nI hlt (by decide), vp_in_nI hs (by decide), ?_⟩
      rw [nI_clamp (n := s) (by omega), hCa]
      refine xm_head ?_
      rw [nI_1 (21 + 2 * a), nI_1 (21 + 2 * s)]
      refine xm_stc (by omega) (by omega) (fun z => ?_) ?_
      · obtain ⟨t, ht, e⟩ := hg (21 + 2 * s) (by omega) (k0.1.symm.trans z)
        exact ⟨t, ht, k0.2.trans e⟩
      · have e1 : upd K' (21 + 2 * a) (K' (21 + 2 * s)) (21 + 2 * s + 1) = K (21 + 2 * s + 1) := (pk_un (by omega)).trans k1.1
        have e2 : ∀ y, upd V' (21 + 2 * a) y (21 + 2 * s + 1) = V (21 + 2 * s + 1) := fun y => (pk_un (by omega)).trans k1.2
        refine xm_stc (by omega) (by omega) (fun z => ?_) ?_
        · obtain ⟨t, ht, e⟩ := hg (21 + 2 * s + 1) (by omega) (e1.symm.trans z)
          exact ⟨t, ht, (e2 _).trans e⟩
        · refine nm_r (nI_1 i) ?_
          rw [ph_cv_cg ⟨e1, e2 _⟩, e1, ph_cv_cg (K := K) (V := V) (K' := K') (V' := V') (q := 21 + 2 * s) k0, show K' (21 + 2 * s) = K (21 + 2 * s) from k0.1]
          refine ih (i + 1) _ _ _ _ (by omega) (by omega) hal (ph_cp_s hcp hs ha hCa (fun s' hs' d e => ?_) (fun s' hs' => ?_))
          · obtain ⟨j, hj, w⟩ := d
            have hI' : ¬ I s' = 0 := (full s' hs').mp ⟨j, by omega, w⟩
            have : s' = s := hal.2.1 s' s hs' hs hI' hI (e.trans hCa.symm)
            rw [this] at w
            have := hl.2.2.1 j i (by omega) hlt' (w.trans hF.symm)
            omega
          · constructor
            · intro ⟨j, hj, w⟩
              by_cases ej : j = i
              · rw [ej] at w
                exact Or.inr (ph_inj (by omega) (by omega) (w.symm.trans hF))
              · exact Or.inl ⟨j, by omega, w⟩
            · intro z
              rcases z with ⟨j, hj, w⟩ | z
              · exact ⟨j, by omega, w⟩
              · exact ⟨i, by omega, by rw [z]; exact hF⟩
  have H1 : ∀ x i C' U', i ≤ n → n - i < x → ph_al U to (fun s => ∃ j, j < i ∧ F j = nI s) C' U' → ph_ct U' (20 * to) 20 + (n - i) ≤ 20 → wX_copyFound_2 post (nI to) x (nI i) (nI n) K V M U' F I C' := by
    intro x
    induction x with
    | zero => intro i _ _ _ h; omega
    | succ x ih =>
      intro i C' U' hi hx hal hct
      have fin : n ≤ i → ∃ n40, wX_copyFound_40 post n40 0 (nI n) K V M U' F I C' := by
        intro w
        have e : i = n := by omega
        subst e
        exact ⟨i + 1, H2 (i + 1) 0 K V C' U' (by omega) (by omega) (ph_al_cg full hal) (ph_cp_0 (fun s hs ⟨j, hj, _⟩ => absurd hj (by omega)))⟩
      refine pk_le 60 i (fun hle => fin (by omega)) (fun hlt => pk_le n i (fun hle => fin hle) (fun hlt' => ⟨vp_in_nI hlt (by decide), ?_⟩))
      obtain ⟨s, hs, hF, hI⟩ := hl.2.1 i hlt'
      rw [nI_clamp (n := i) (by omega), hF]
      refine xm_take hto (by omega) (fun a h1 h2 h3 => ⟨vp_in_nI hs (by decide), ?_⟩)
      rw [nI_clamp (n := s) (by omega)]
      refine nm_e (nm_r (nI_1 i) (ih (i + 1) _ _ (by omega) (by omega) (ph_al_s hal hs ?_ (by omega) (by omega) h3 (by decide) (fun s' hs' => ?_)) ?_))
      · intro ⟨j, hj, w⟩
        have := hl.2.2.1 j i (by omega) hlt' (w.trans hF.symm)
        omega
      · constructor
        · intro ⟨j, hj, w⟩
          by_cases ej : j = i
          · rw [ej] at w
            exact Or.inr (ph_inj (by omega) (by omega) (w.symm.trans hF))
          · exact Or.inl ⟨j, by omega, w⟩
        · intro z
          rcases z with ⟨j, hj, w⟩ | z
          · exact ⟨j, by omega, w⟩
          · exact ⟨i, by omega, by rw [z]; exact hF⟩
      · rw [ph_ct_set (by decide) h3 20 h1 h2]
        omega
  exact ⟨n + 1, H1 (n + 1) 0 C U (by omega) (by omega) (ph_al_0 (fun s hs ⟨j, hj, _⟩ => absurd hj (by omega))) (by omega)⟩
def ph_sh (K : Nat → Int32) (a : Nat) : Nat → Int32 := upd (upd (upd K a (K (a + 1))) (a + 1) (K (a + 1 + 1))) (a + 1 + 1) 0
theorem xm_drop {post : SX → Prop} {p : Nat} (hp : p < 3) (h : post (fc, ph_sh K (7 * p + 4), ph_sh V (7 * p + 4), upd M p (M p - 1), U, F, I, C)) : wpX_dropOldestMail post (fc, K, V, M, U, F, I, C) (nI p) := by
  have e2 : ∀ (f : Nat → Int32) y, upd f (7 * p + 4) y (7 * p + 4 + 1 + 1) = f (7 * p + 4 + 1 + 1) := fun f y => pk_un (by omega)
  have e3 : nI (7 * p + 4) + 3 - 1 = nI (7 * p + 4 + 1 + 1) := by
    rw [show (3 : Int32) = nI 3 from rfl, nI_add, show 7 * p + 4 + 3 = 7 * p + 4 + 1 + 1 + 1 by omega, nI_pred]
  unfold wpX_dropOldestMail
  dsimp only
  refine xm_mailc (j := 0) ?_
  refine nm_r e3 ⟨3, ?_⟩
  refine pk_le (7 * p + 4 + 1 + 1) (7 * p + 4) (fun z => absurd z (by omega)) (fun _ => ?_)
  rw [nI_1 (7 * p + 4), nI_clamp (n := 7 * p + 4 + 1) (by omega)]
  refine ⟨vp_in_nI (by omega) (by decide), vp_in_nI (by omega) (by decide), xm_set (by omega) ?_⟩
  refine nm_e ?_
  refine pk_le (7 * p + 4 + 1 + 1) (7 * p + 4 + 1) (fun z => absurd z (by omega)) (fun _ => ?_)
  rw [nI_1 (7 * p + 4 + 1), nI_clamp (n := 7 * p + 4 + 1 + 1) (by omega), e2, e2]
  refine ⟨vp_in_nI (by omega) (by decide), vp_in_nI (by omega) (by decide), xm_set (by omega) ?_⟩
  refine nm_e ?_
  refine pk_le (7 * p + 4 + 1 + 1) (7 * p + 4 + 1 + 1) (fun _ => ?_) (fun z => absurd z (by omega))
  refine xm_set (by omega) ?_
  refine ⟨vp_in_nI hp (by decide), vp_in_nI hp (by decide), ?_⟩
  rw [nI_clamp (n := p) (by omega)]
  exact nm_e h
theorem ph_sh_j {p j : Nat} (hj : j < 2) : ph_sh K (7 * p + 4) (7 * p + 4 + j) = K (7 * p + 4 + (j + 1)) := by
  unfold ph_sh
  rw [pk_un (by omega)]
  by_cases e : j = 0
  · subst e
    rw [pk_un (by omega)]
    exact pk_us
  · have e : j = 1 := by omega
    subst e
    exact pk_us
theorem ph_sh_2 {p : Nat} : ph_sh K (7 * p + 4) (7 * p + 4 + 2) = 0 := pk_us
theorem ph_sh_n {p q : Nat} (hq : ∀ j, j < 3 → q ≠ 7 * p + 4 + j) : ph_sh K (7 * p + 4) q = K q := by
  have h0 := hq 0 (by omega)
  have h1 := hq 1 (by omega)
  have h2 := hq 2 (by omega)
  unfold ph_sh
  rw [pk_un (by omega), pk_un (by omega), pk_un (by omega)]
end
