/-! the last of the loops: blob, restart, send, blobs -/
theorem ph_uu {f : Nat → Int32} {k : Nat} {x y : Int32} : upd (upd f k x) k y = upd f k y := by
  funext j
  by_cases e : j = k
  · rw [e, pk_us, pk_us]
  · rw [pk_un e, pk_un e, pk_un e]
theorem ph_ur {f : Nat → Int32} {k : Nat} {x : Int32} : upd (upd f k x) k (f k) = f := by
  funext j
  by_cases e : j = k
  · rw [e, pk_us]
  · rw [pk_un e, pk_un e]
theorem ph_lf_ex (K V : Nat → Int32) (R : Nat → Prop) : ∃ S, ph_lf K V R S := by
  refine ⟨fun t => ∀ S' : Nat → Prop, (∀ t, t < 60 → R t → S' t) → ph_cl K V S' → S' t, ?_, ?_, ?_⟩
  · intro t ht hr S' h1 _
    exact h1 t ht hr
  · intro s b t hs hb ht h ho S' h1 h2
    exact h2 s b t hs hb ht (h S' h1 h2) ho
  · intro S' h1 h2 t _ h
    exact h S' h1 h2
theorem ph_bex (Q : Nat → Prop) : ∃ f : Nat → Int32, ∀ t, (¬ f t = 0 ↔ Q t) := by
  have : ∀ t, ∃ x : Int32, (¬ x = 0 ↔ Q t) := by
    intro t
    by_cases h : Q t
    · exact ⟨1, fun _ => h, fun _ => by decide⟩
    · exact ⟨0, fun z => absurd rfl z, fun z => absurd z h⟩
  exact Classical.axiomOfChoice this
theorem ph_xm_rel {sg N : Nat → Nat} {K V U M k c u m K' V' U' : Nat → Int32} (h : ph_rel sg N K V U M k c u m) {p n : Nat} (hp : p < 3) (hx : ph_xm p n K V U K' V' U') : ∃ u', ph_rel sg N K' V' U' M k c u' m := by
  by_cases z : ph_ct u (20 * p) 20 + n ≤ 20
  · exact ⟨u, ph_room2 h hp hx (Or.inl ⟨z, rfl⟩)⟩
  · obtain ⟨T, hT⟩ := ph_lf_ex k c (ph_yr p k c u N)
    obtain ⟨u', hu'⟩ := ph_bex (fun t => ¬ u t = 0 ∧ (t / 20 = p → T t))
    exact ⟨u', ph_room2 h hp hx (Or.inr ⟨z, T, hT, fun t _ => hu' t⟩)⟩
section
variable {fc : Int32} {K V M U F I C : Nat → Int32}
theorem xm_restart {post : Int32 → SX → Prop} {p : Nat} (hp : p < 3) (hg : ∀ q, q < 141 → K q = 2 → ∃ s, s < 60 ∧ V q = nI s) (h : ∀ fc' K1 V1 K' V' U' F' I', (∀ i, i < 7 → K1 (7 * p + i) = 0 ∧ V1 (7 * p + i) = 0) → (∀ q, q < 141 → (∀ i, i < 7 → q ≠ 7 * p + i) → K1 q = K q ∧ V1 q = V q) → ph_xc p K1 V1 U K' V' U' → post 0 (fc', K', V', upd M p 0, U', F', I', C)) : wpX_restart post (fc, K, V, M, U, F, I, C) (nI p) := by
  have H : ∀ x i K1 V1, i ≤ 7 → 7 - i < x → (∀ j, j < i → K1 (7 * p + j) = 0 ∧ V1 (7 * p + j) = 0) → (∀ q, q < 141 → (∀ j, j < i → q ≠ 7 * p + j) → K1 q = K q ∧ V1 q = V q) → wX_restart_17 post (nI p) (nI (7 * p)) x (nI i) fc K1 V1 M U F I C := by
    intro x
    induction x with
    | zero => intro i _ _ _ h; omega
    | succ x ih =>
      intro i K1 V1 hi hx h1 h2
      refine pk_le 7 i (fun hle => ⟨vp_in_nI hp (by decide), ?_⟩) (fun hlt => ?_)
      · have e : i = 7 := by omega
        subst e
        rw [nI_clamp (by omega)]
        refine nm_e (xm_clean hp (fun q hq k2 => ?_) (fun fc' K' V' U' F' I' hx => h fc' K1 V1 K' V' U' F' I' h1 h2 hx))
        have hn : ∀ j, j < 7 → q ≠ 7 * p + j := by
          intro j hj e
          rw [e, (h1 j hj).1] at k2
          exact absurd k2 (by decide)
        obtain ⟨e1, e2⟩ := h2 q hq hn
        obtain ⟨s, hs, e⟩ := hg q hq (e1.symm.trans k2)
        exact ⟨s, hs, e2.trans e⟩
      · rw [nI_add]
        refine xm_set (by omega) (nm_r (nI_1 i) (ih (i + 1) _ _ (by omega) (by omega) (fun j hj => ?_) (fun q hq hn => ?_)))
        · by_cases e : j = i
          · rw [e]
            exact ⟨pk_us, pk_us⟩
          · rw [pk_un (by omega), pk_un (by omega)]
            exact h1 j (by omega)
        · have := hn i (by omega)
          rw [pk_un this, pk_un this]
          exact h2 q hq (fun j hj => hn j (by omega))
  unfold wpX_restart
  dsimp only
  refine xm_isProc1 hp (br_f (by decide) (xm_reg0 ⟨8, H 8 0 K V (by omega) (by omega) lt_0 (fun _ _ _ => ⟨rfl, rfl⟩)⟩))
theorem xm_blobs {post : Int32 → Prop} {f : Nat → Int32} (hf : ∀ j, j < 6 → (¬ f j = 0 ↔ ∃ q, q < 141 ∧ K q = 3 ∧ V q = nI j)) (h : post (nI (ph_ct f 0 6))) : wpX_blobs post (fc, K, V, M, U, F, I, C) := by
  have H : ∀ n i, i ≤ 6 → 6 - i < n → wX_blobs_4 post fc K V M U F I C n (nI (ph_ct f 0 i)) (nI i) := by
    intro n
    induction n with
    | zero => intro i _ h; omega
    | succ n ih =>
      intro i hi hn
      refine pk_le 6 i (fun hle => ?_) (fun hlt => ?_)
      · have e : i = 6 := by omega
        subst e
        exact h
      · have := ih (i + 1) (by omega) (by omega)
        refine xm_kept (fun z => ?_) (fun z => ?_)
        · rw [ph_ct_s1 (by rw [Nat.zero_add]; exact (hf i hlt).mpr z)] at this
          exact br_f (by decide) (nm_r (nI_1 _) (nm_r (nI_1 _) this))
        · rw [ph_ct_s0 (by rw [Nat.zero_add]; exact Classical.byContradiction (fun w => z ((hf i hlt).mp w)))] at this
          exact br_t rfl (nm_r (nI_1 _) this)
  exact ⟨7, H 7 0 (by omega) (by omega)⟩
end
section
variable {k c m u R D : Nat → Int32} {N : Nat → Nat}
theorem ym_blobs {post : Int32 → Prop} {f : Nat → Int32} (hm : ∀ p, p < 3 → N p ≤ 3 ∧ m p = nI (N p)) (h01 : ph_01 u) (hf : ∀ j, j < 6 → (¬ f j = 0 ↔ ∃ y, y < 141 ∧ nI y ≠ -1 ∧ k y = 3 ∧ c y = nI j ∧ ph_th u N y)) (h : post (nI (ph_ct f 0 6))) : wpY_blobs post (k, c, m, u, R, D) := by
  have H : ∀ n i, i ≤ 6 → 6 - i < n → wY_blobs_4 post k c m u R D n (nI (ph_ct f 0 i)) (nI i) := by
    intro n
    induction n with
    | zero => intro i _ h; omega
    | succ n ih =>
      intro i hi hn
      refine pk_le 6 i (fun hle => ?_) (fun hlt => ?_)
      · have e : i = 6 := by omega
        subst e
        exact h
      · have := ih (i + 1) (by omega) (by omega)
        refine ym_held hm h01 (fun z => ?_) (fun z => ?_)
        · rw [ph_ct_s1 (by rw [Nat.zero_add]; exact (hf i hlt).mpr z)] at this
          exact br_f (by decide) (nm_r (nI_1 _) (nm_r (nI_1 _) this))
        · rw [ph_ct_s0 (by rw [Nat.zero_add]; exact Classical.byContradiction (fun w => z ((hf i hlt).mp w)))] at this
          exact br_t rfl (nm_r (nI_1 _) this)
  exact ⟨7, H 7 0 (by omega) (by omega)⟩
theorem ym_blob {post : Int32 → SY → Prop} {p r b : Nat} (hp : p < 3) (hr : r < 4) (hm : ∀ p, p < 3 → N p ≤ 3 ∧ m p = nI (N p)) (h01 : ph_01 u) (hb : b ≤ 6) (hB : ∀ j, j < b → ∃ y, y < 141 ∧ nI y ≠ nI (4 * p + r) ∧ k y = 3 ∧ c y = nI j ∧ ph_th u N y) (hN : b < 6 → ¬ ∃ y, y < 141 ∧ nI y ≠ nI (4 * p + r) ∧ k y = 3 ∧ c y = nI b ∧ ph_th u N y) (h1 : b < 6 → post (nI b) (upd k (4 * p + r) 3, upd c (4 * p + r) (nI b), m, u, R, D)) (h0 : b = 6 → post (-2) (k, c, m, u, R, D)) : wpY_blob post (k, c, m, u, R, D) (nI p) (nI r) := by
  have H : ∀ n i, i ≤ b → 6 - i < n → wY_blob_12 post (nI p) (nI r) k c m u R D n (nI i) := by
    intro n
    induction n with
    | zero => intro i _ h; omega
    | succ n ih =>
      intro i hi hn
      refine pk_le 6 i (fun hle => h0 (by omega)) (fun hlt => ?_)
      rw [ym_e4 p r]
      refine ym_held hm h01 (fun z => ?_) (fun z => ?_)
      · by_cases e : i = b
        · rw [e] at z
          exact absurd z (hN (by omega))
        · exact br_f (by decide) (nm_r (nI_1 i) (ih (i + 1) (by omega) (by omega)))
      · by_cases e : i = b
        · subst e
          exact br_t rfl (ym_set (by omega) (h1 hlt))
        · exact absurd (hB i (by omega)) z
  unfold wpY_blob
  dsimp only
  exact ym_bad1 hp hr (br_t rfl ⟨7, H 7 0 (by omega) (by omega)⟩)
theorem ym_restart {post : Int32 → SY → Prop} {p : Nat} (hp : p < 3) (h01 : ph_01 u) (h : ∀ k' c' u', (∀ r, r < 4 → k' (4 * p + r) = 0) → (∀ y, y < 141 → (∀ r, r < 4 → y ≠ 4 * p + r) → k' y = k y ∧ c' y = c y) → ph_01 u' → (∀ t, t < 60 → (¬ u' t = 0 ↔ ¬ u t = 0 ∧ (t / 20 = p → False))) → post 0 (k', c', upd m p 0, u', R, D)) : wpY_restart post (k, c, m, u, R, D) (nI p) := by
  have H2 : ∀ x i k' c' u', (∀ r, r < 4 → k' (4 * p + r) = 0) → (∀ y, y < 141 → (∀ r, r < 4 → y ≠ 4 * p + r) → k' y = k y ∧ c' y = c y) → i ≤ 20 → 20 - i < x → ph_01 u' → (∀ t, t < 60 → (¬ u' t = 0 ↔ ¬ u t = 0 ∧ ¬ (20 * p ≤ t ∧ t < 20 * p + i))) → wY_restart_46 post (nI p) x (nI (20 * p + i)) k' c' (upd m p 0) u' R D := by
    intro x
    induction x with
    | zero => intro i _ _ _ _ _ _ h; omega
    | succ x ih =>
      intro i k' c' u' g1 g2 hi hx hu hv
      refine pk_le (20 * p + 20) (20 * p + i) (fun hle => ?_) (fun hlt => ⟨vp_in_nI (by omega) (by decide), ?_⟩) (hx := by rw [ym_e20, ym_e2020])
      · have e : i = 20 := by omega
        subst e
        refine h k' c' u' g1 g2 hu (fun t ht => (hv t ht).trans ⟨fun z => ⟨z.1, fun w => z.2 (by omega)⟩, fun z => ⟨z.1, fun w => z.2 (by omega)⟩⟩)
      · rw [nI_clamp (by omega), xm_n0]
        refine nm_e (nm_r (nI_1 _) (ih (i + 1) k' c' _ g1 g2 (by omega) (by omega) (ph_01_u hu (Or.inl rfl)) (fun t ht => ?_)))
        by_cases e : t = 20 * p + i
        · rw [e, pk_us]
          exact ⟨fun z => absurd rfl z, fun z => absurd (by omega) z.2⟩
        · rw [pk_un e, hv t ht]
          exact ⟨fun z => ⟨z.1, fun w => z.2 (by omega)⟩, fun z => ⟨z.1, fun w => z.2 (by omega)⟩⟩
  have H1 : ∀ x i k' c', i ≤ 4 → 4 - i < x → (∀ r, r < i → k' (4 * p + r) = 0) → (∀ y, y < 141 → (∀ r, r < i → y ≠ 4 * p + r) → k' y = k y ∧ c' y = c y) → wY_restart_12 post (nI p) x (nI i) k' c' m u R D := by
    intro x
    induction x with
    | zero => intro i _ _ _ h; omega
    | succ x ih =>
      intro i k' c' hi hx g1 g2
      refine pk_le 4 i (fun hle => ⟨vp_in_nI hp (by decide), ?_⟩) (fun hlt => ?_)
      · have e : i = 4 := by omega
        subst e
        rw [nI_clamp (by omega)]
        exact nm_e (nm_r (ym_e20 p) ⟨21, H2 21 0 k' c' u g1 g2 (by omega) (by omega) h01 (fun t _ => ⟨fun z => ⟨z, fun w => absurd w (by omega)⟩, fun z => z.1⟩)⟩)
      · rw [ym_e4 p i]
        refine ym_set (by omega) (nm_r (nI_1 i) (ih (i + 1) _ _ (by omega) (by omega) (fun j hj => ?_) (fun y hy hn => ?_)))
        · by_cases e : j = i
          · rw [e]
            exact pk_us
          · rw [pk_un (by omega)]
            exact g1 j (by omega)
        · have := hn i (by omega)
          rw [pk_un this, pk_un this]
          exact g2 y hy (fun j hj => hn j (by omega))
  unfold wpY_restart
  dsimp only
  exact ym_badp1 hp (br_t rfl ⟨5, H1 5 0 k c (by omega) (by omega) lt_0 (fun _ _ _ => ⟨rfl, rfl⟩)⟩)
theorem ym_send {post : Int32 → SY → Prop} {to q : Nat} (hto : to < 3) (hq : q < 21) (hm : N to < 3 ∧ m to = nI (N to)) (h01 : ph_01 u) (hct : ph_ct u (20 * to) 20 + ph_ct R 0 60 ≤ 20) (hRu : ∀ t, t < 60 → ¬ R t = 0 → ¬ u t = 0) (hgs : ∀ t b, t < 60 → b < 2 → ¬ R t = 0 → k (21 + 2 * t + b) = 2 → ∃ t', t' < 60 ∧ c (21 + 2 * t + b) = nI t') (hgq : k q = 2 → ∃ t, t < 60 ∧ c q = nI t)
    (h : ∀ D' u1 k1 c1, ph_01 u1 → ph_al u to (fun t => ¬ R t = 0) D' u1 → ph_cp k c D' (fun t => ¬ R t = 0) k1 c1 → post 0 (upd k1 (12 + 3 * to + N to) (k q), upd c1 (12 + 3 * to + N to) (ph_cv k c D' q), upd m to (nI (N to + 1)), u1, R, D')) : ∃ n, wY_send_72 post (nI to) (nI q) n 0 k c m u R D := by
  have full : ∀ t, t < 60 → ((t < 60 ∧ ¬ R t = 0) ↔ ¬ R t = 0) := fun t ht => ⟨fun z => z.2, fun z => ⟨ht, z⟩⟩
  have H2 : ∀ x i D' u1 k' c', i ≤ 60 → 60 - i < x → ph_01 u1 → ph_al u to (fun t => ¬ R t = 0) D' u1 → ph_cp k c D' (fun t => t < i ∧ ¬ R t = 0) k' c' → wY_send_123 post (nI to) (nI q) x (nI i) k' c' m u1 R D' := by
    intro x
    induction x with
    | zero => intro i _ _ _ _ _ h; omega
    | succ x ih =>
      intro i D' u1 k' c' hi hx h1 hal hcp
      refine pk_le 60 i (fun hle => ⟨vp_in_nI hto (by decide), ?_⟩) (fun hlt => ⟨vp_in_nI hlt (by decide), ?_⟩)
      · have e : i = 60 := by omega
        subst e
        have hcp := ph_cp_cg full hcp
        have kq := hcp.2 q (by omega) (fun s a b _ _ _ _ _ => by omega)
        have em : 12 + 3 * nI to + m to = nI (12 + 3 * to + N to) := by
          rw [hm.2, show (12 : Int32) = nI 12 from rfl, show (3 : Int32) = nI 3 from rfl, pk_mul, nI_add, nI_add]
        have := h D' u1 k' c' h1 hal hcp
        rw [← ph_cv_cg kq, ← kq.1] at this
        rw [nI_clamp (n := to) (by omega), em]
        refine ym_copy1 (by omega) (by omega) (fun z => ?_) ?_
        · obtain ⟨t, ht, e⟩ := hgq (kq.1.symm.trans z)
          exact ⟨t, ht, kq.2.trans e⟩
        · refine ⟨vp_in_nI hto (by decide), vp_in_nI hto (by decide), nm_r (e' := upd m to (nI (N to + 1))) ?_ this⟩
          rw [hm.2, nI_1]
      · rw [nI_clamp (n := i) (by omega)]
        by_cases z : R i = 0
        · refine br_t z (nm_r (nI_1 i) (ih (i + 1) D' u1 k' c' (by omega) (by omega) h1 hal (ph_cp_cg (fun t ht => ?_) hcp)))
          constructor
          · intro w
            exact ⟨by omega, w.2⟩
          · intro w
            by_cases e : t = i
            · rw [e] at w
              exact absurd z w.2
            · exact ⟨by omega, w.2⟩
        · obtain ⟨a, ha, hap, hDa, hua⟩ := hal.1 i hlt z
          have sep : ∀ s' a', s' < 60 → a' < 60 → (s' < i ∧ ¬ R s' = 0) → D' s' = nI a' → a' ≠ i := by
            intro s' a' hs' ha' d e w
            obtain ⟨a2, _, _, e2, u2⟩ := hal.1 s' hs' d.2
            have : a2 = a' := ph_inj (by omega) (by omega) (e2.symm.trans e)
            rw [this, w] at u2
            exact hRu i hlt z u2
          have k0 := ph_cp_k hcp (b := 0) hlt (by omega) sep
          have k1 := ph_cp_k hcp (b := 1) hlt (by omega) sep
          refine br_f z ⟨vp_in_nI hlt (by decide), ?_⟩
          rw [hDa, xm_e21 a, xm_e21 i, ym_e22 i]
          refine ym_copy1 (by omega) (by omega) (fun w => ?_) ⟨vp_in_nI hlt (by decide), ?_⟩
          · obtain ⟨t, ht, e⟩ := hgs i 0 hlt (by omega) z (k0.1.symm.trans w)
            exact ⟨t, ht, k0.2.trans e⟩
          · have e1 : upd k' (21 + 2 * a) (k' (21 + 2 * i)) (21 + 2 * i + 1) = k (21 + 2 * i + 1) := (pk_un (by omega)).trans k1.1
            have e2 : ∀ y, upd c' (21 + 2 * a) y (21 + 2 * i + 1) = c (21 + 2 * i + 1) := fun y => (pk_un (by omega)).trans k1.2
            rw [hDa, ym_e22 a]
            refine ym_copy1 (by omega) (by omega) (fun w => ?_) ?_
            · obtain ⟨t, ht, e⟩ := hgs i 1 hlt (by omega) z (e1.symm.trans w)
              exact ⟨t, ht, (e2 _).trans e⟩
            · refine nm_r (nI_1 i) ?_
              rw [ph_cv_cg ⟨e1, e2 _⟩, e1, ph_cv_cg (K := k) (V := c) (K' := k') (V' := c') (q := 21 + 2 * i) k0, show k' (21 + 2 * i) = k (21 + 2 * i) from k0.1]
              refine ih (i + 1) D' u1 _ _ (by omega) (by omega) h1 hal (ph_cp_s hcp hlt ha hDa (fun s' hs' d e => ?_) (fun s' hs' => ?_))
              · have := hal.2.1 s' i hs' hlt d.2 z (e.trans hDa.symm)
                omega
              · constructor
                · intro w
                  by_cases e : s' = i
                  · exact Or.inr e
                  · exact Or.inl ⟨by omega, w.2⟩
                · intro w
                  rcases w with w | w
                  · exact ⟨by omega, w.2⟩
                  · rw [w]
                    exact ⟨by omega, z⟩
  have H1 : ∀ x i D' u1, i ≤ 60 → 60 - i < x → ph_01 u1 → ph_al u to (fun t => t < i ∧ ¬ R t = 0) D' u1 → ph_ct u1 (20 * to) 20 + ph_ct R 0 60 ≤ 20 + ph_ct R 0 i → wY_send_72 post (nI to) (nI q) x (nI i) k c m u1 R D' := by
    intro x
    induction x with
    | zero => intro i _ _ _ h; omega
    | succ x ih =>
      intro i D' u1 hi hx h1 hal hc
      refine pk_le 60 i (fun hle => ?_) (fun hlt => ⟨vp_in_nI hlt (by decide), ?_⟩)
      · have e : i = 60 := by omega
        subst e
        exact ⟨61, H2 61 0 D' u1 k c (by omega) (by omega) h1 (ph_al_cg full hal) (ph_cp_0 (fun s _ d => absurd d.1 (by omega)))⟩
      · rw [nI_clamp (n := i) (by omega)]
        by_cases z : R i = 0
        · rw [← ph_ct_s0 (P := R) (a := 0) (n := i) (by rw [Nat.zero_add]; exact z)] at hc
          refine br_t z (nm_r (nI_1 i) (ih (i + 1) D' u1 (by omega) (by omega) h1 (ph_al_cg (fun t ht => ?_) hal) hc))
          constructor
          · intro w
            exact ⟨by omega, w.2⟩
          · intro w
            by_cases e : t = i
            · rw [e] at w
              exact absurd z w.2
            · exact ⟨by omega, w.2⟩
        · have s1 := ph_ct_s1 (P := R) (a := 0) (n := i) (by rw [Nat.zero_add]; exact z)
          have mo := ph_ct_mono (P := R) (a := 0) (i := i + 1) (j := 60) (by omega)
          refine br_f z (ym_unused hto (by omega) (fun a g1 g2 g3 => ⟨vp_in_nI hlt (by decide), nm_e ⟨vp_in_nI hlt (by decide), ?_⟩⟩))
          rw [pk_us]
          refine ⟨vp_in_nI (by omega) (by decide), ?_⟩
          rw [nI_clamp (n := a) (by omega), xm_n1]
          refine nm_e (nm_r (nI_1 i) (ih (i + 1) _ _ (by omega) (by omega) (ph_01_u h1 (Or.inr rfl)) (ph_al_s hal hlt (fun w => absurd w.1 (by omega)) (by omega) (by omega) g3 (by decide) (fun s' hs' => ?_)) ?_))
          · constructor
            · intro w
              by_cases e : s' = i
              · exact Or.inr e
              · exact Or.inl ⟨by omega, w.2⟩
            · intro w
              rcases w with w | w
              · exact ⟨by omega, w.2⟩
              · rw [w]
                exact ⟨by omega, z⟩
          · rw [ph_ct_set (by decide) g3 20 g1 g2]
            omega
  exact ⟨61, H1 61 0 D u (by omega) (by omega) h01 (ph_al_0 (fun s _ d => absurd d.1 (by omega))) (by show _ ≤ 20 + 0; omega)⟩
end
