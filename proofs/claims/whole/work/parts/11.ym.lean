/-! Y's methods of its own -/
def ph_01 (u : Nat → Int32) : Prop := ∀ t, t < 60 → u t = 0 ∨ u t = 1
theorem ph_01_u {u : Nat → Int32} {s : Nat} {x : Int32} (h : ph_01 u) (hx : x = 0 ∨ x = 1) : ph_01 (upd u s x) := by
  intro t ht
  by_cases e : t = s
  · rw [e, pk_us]
    exact hx
  · rw [pk_un e]
    exact h t ht
theorem ph_nb {x : Int32} (h : x = 0 ∨ x = 1) : narrow .boolean (.int x) = .int x := by
  rcases h with h | h
  · subst h; rfl
  · subst h; rfl
theorem ph_lf_cg {K V : Nat → Int32} {R R' S : Nat → Prop} (hR : ∀ t, t < 60 → (R t ↔ R' t)) (h : ph_lf K V R S) : ph_lf K V R' S :=
  ⟨fun t ht z => h.1 t ht ((hR t ht).mpr z), h.2.1, fun S' h' hc => h.2.2 S' (fun t ht z => h' t ht ((hR t ht).mp z)) hc⟩
theorem ym_bad1 {post : Int32 → Prop} {p r : Nat} (hp : p < 3) (hr : r < 4) (h : post 0) : wpY_bad post (nI p) (nI r) :=
  br_f (nI_pos (by omega)) (br_f (nI_nlt (a := 2) (b := p) (by omega) (by decide)) (br_f (nI_pos (by omega)) (br_t (nI_le (a := r) (b := 3) (by omega) (by decide)) h)))
theorem ym_bad0 {post : Int32 → Prop} {x y : Int32} (h0 : ¬ ∃ p r, p < 3 ∧ r < 4 ∧ x = nI p ∧ y = nI r) (h : post 1) : wpY_bad post x y := by
  unfold wpY_bad
  by_cases h1 : x < 0
  · exact br_t h1 h
  · refine br_f h1 ?_
    by_cases h2 : 2 < x
    · exact br_t h2 h
    · refine br_f h2 ?_
      by_cases h3 : y < 0
      · exact br_t h3 h
      · refine br_f h3 ?_
        by_cases h4 : y ≤ 3
        · obtain ⟨p, hp, e⟩ := nI_of2 (M := 2) (n := 2) (by decide) h1 (Int32.not_lt.mp h2)
          obtain ⟨r, hr, e'⟩ := nI_of2 (M := 3) (n := 3) (by decide) h3 h4
          exact absurd ⟨p, r, by omega, by omega, e, e'⟩ h0
        · exact br_f h4 h
theorem ym_badp1 {post : Int32 → Prop} {p : Nat} (hp : p < 3) (h : post 0) : wpY_bad post (nI p) 0 := ym_bad1 (r := 0) hp (by omega) h
theorem ym_badp0 {post : Int32 → Prop} {x : Int32} (hx : ∀ p, p < 3 → x ≠ nI p) (h : post 1) : wpY_bad post x 0 := ym_bad0 (fun ⟨p, _, hp, _, e, _⟩ => hx p hp e) h
theorem ym_e4 (p r : Nat) : 4 * nI p + nI r = nI (4 * p + r) := by
  rw [show (4 : Int32) = nI 4 from rfl, pk_mul, nI_add]
theorem ym_e20 (p : Nat) : 20 * nI p = nI (20 * p) := by
  rw [show (20 : Int32) = nI 20 from rfl, pk_mul]
theorem ym_e2020 (p : Nat) : nI (20 * p) + 20 = nI (20 * p + 20) := nI_add (20 * p) 20
theorem ym_e22 (s : Nat) : 22 + 2 * nI s = nI (21 + 2 * s + 1) := by
  rw [show (22 : Int32) = nI 22 from rfl, show (2 : Int32) = nI 2 from rfl, pk_mul, nI_add, show 22 + 2 * s = 21 + 2 * s + 1 by omega]
section
variable {k c m u R D : Nat → Int32}
theorem ym_set {post : SY → Prop} {q : Nat} {a b : Int32} (hq : q < 141) (h : post (upd k q a, upd c q b, m, u, R, D)) : wpY_set post (k, c, m, u, R, D) (nI q) a b := by
  have e : (nI q).toNatClampNeg = q := nI_clamp (by omega)
  unfold wpY_set
  dsimp only
  refine ⟨vp_in_nI hq (by decide), fun y1 e1 => ⟨vp_in_nI hq (by decide), fun y2 e2 => ?_⟩⟩
  rw [e] at e1 e2
  rw [e1, e2]
  exact h
theorem ym_take {post : SY → Prop} {q a : Nat} (hq : q < 141) (ha : a < 141) (h : post (upd k a (k q), upd c a (c q), m, u, R, D)) : wpY_take post (k, c, m, u, R, D) (nI a) (nI q) := by
  unfold wpY_take
  dsimp only
  rw [nI_clamp (n := q) (by omega)]
  exact ⟨vp_in_nI hq (by decide), vp_in_nI hq (by decide), ym_set ha h⟩
theorem ym_there {post : Int32 → Prop} {N : Nat → Nat} {y : Nat} (hy : y < 141) (hm : ∀ p, p < 3 → N p ≤ 3 ∧ m p = nI (N p)) (h01 : ph_01 u) (h1 : ph_th u N y → ∀ r, ¬ r = 0 → post r) (h0 : ¬ ph_th u N y → post 0) : wpY_there post (k, c, m, u, R, D) (nI y) := by
  unfold wpY_there
  dsimp only
  refine pk_le 12 y (fun h12 => pk_le 21 y (fun h21 => ?_) (fun h21 => ?_)) (fun h12 => h1 (Or.inl h12) 1 (by decide))
  · have e : (nI y - 21) / 2 = nI ((y - 21) / 2) := by
      rw [show (21 : Int32) = nI 21 from rfl, show (2 : Int32) = nI 2 from rfl, pk_sub h21, pk_div (by omega) (by omega) (by omega)]
    rw [e, nI_clamp (by omega)]
    refine ⟨by decide, vp_in_nI (by omega) (by decide), ph_nb (h01 _ (by omega)), ?_⟩
    by_cases z : u ((y - 21) / 2) = 0
    · rw [z]
      refine h0 (fun w => ?_)
      rcases w with w | w | w
      · omega
      · omega
      · exact w.2 z
    · exact h1 (Or.inr (Or.inr ⟨h21, z⟩)) _ z
  · have e : (nI y - 12) / 3 = nI ((y - 12) / 3) := by
      rw [show (12 : Int32) = nI 12 from rfl, show (3 : Int32) = nI 3 from rfl, pk_sub h12, pk_div (by omega) (by omega) (by omega)]
    have e2 : nI y - 12 - nI ((y - 12) / 3) * 3 = nI ((y - 12) % 3) := by
      rw [show (12 : Int32) = nI 12 from rfl, show (3 : Int32) = nI 3 from rfl, pk_sub h12, pk_mul, pk_sub (by omega)]
      exact congrArg nI (by omega)
    obtain ⟨n3, em⟩ := hm ((y - 12) / 3) (by omega)
    rw [e, e2, nI_clamp (by omega), em]
    refine ⟨by decide, by decide, vp_in_nI (by omega) (by decide), pk_le _ _ (fun w => h0 (fun t => ?_)) (fun w => h1 (Or.inr (Or.inl ⟨h12, h21, w⟩)) 1 (by decide))⟩
    rcases t with t | t | t
    · omega
    · have := t.2.2
      omega
    · omega
theorem ym_held {post : Int32 → Prop} {N : Nat → Nat} {x w : Int32} (hm : ∀ p, p < 3 → N p ≤ 3 ∧ m p = nI (N p)) (h01 : ph_01 u) (h1 : (∃ y, y < 141 ∧ nI y ≠ w ∧ k y = 3 ∧ c y = x ∧ ph_th u N y) → post 1) (h0 : (¬ ∃ y, y < 141 ∧ nI y ≠ w ∧ k y = 3 ∧ c y = x ∧ ph_th u N y) → post 0) : wpY_held post (k, c, m, u, R, D) x w := by
  have H : ∀ n i, i ≤ 141 → 141 - i < n → (∀ y, y < i → ¬ (nI y ≠ w ∧ k y = 3 ∧ c y = x ∧ ph_th u N y)) → wY_held_2 post x w k c m u R D n (nI i) := by
    intro n
    induction n with
    | zero => intro i _ h; omega
    | succ n ih =>
      intro i hi hn hq
      refine pk_le 141 i (fun hle => h0 (fun ⟨q, hq', z⟩ => hq q (by omega) z)) (fun hlt => ?_)
      have nx : ¬ (nI i ≠ w ∧ k i = 3 ∧ c i = x ∧ ph_th u N i) → wY_held_2 post x w k c m u R D n (nI (i + 1)) := fun z => ih (i + 1) (by omega) (by omega) (lt_s hq z)
      by_cases ew : nI i = w
      · exact br_t ew (nm_r (nI_1 i) (nx (fun z => z.1 ew)))
      · refine br_f ew ⟨vp_in_nI hlt (by decide), ?_⟩
        rw [nI_clamp (by omega)]
        by_cases k3 : k i = 3
        · refine br_t k3 ⟨vp_in_nI hlt (by decide), ?_⟩
          by_cases v : c i = x
          · refine br_t v (ym_there hlt hm h01 (fun t r hr => ?_) (fun t => ?_))
            · exact br_f hr (h1 ⟨i, hlt, ew, k3, v, t⟩)
            · exact br_t rfl (nm_r (nI_1 i) (nx (fun z => t z.2.2.2)))
          · exact br_f v (nm_r (nI_1 i) (nx (fun z => v z.2.2.1)))
        · exact br_f k3 (nm_r (nI_1 i) (nx (fun z => k3 z.2.1)))
  exact ⟨142, H 142 0 (by omega) (by omega) lt_0⟩
theorem ym_count {post : Int32 → Prop} {p : Nat} (hp : p < 3) (h : post (nI (ph_ct u (20 * p) 20))) : wpY_count post (k, c, m, u, R, D) (nI p) := by
  have H : ∀ n i, i ≤ 20 → 20 - i < n → wY_count_7 post (nI p) k c m u R D n (nI (ph_ct u (20 * p) i)) (nI (20 * p + i)) := by
    intro n
    induction n with
    | zero => intro i _ h; omega
    | succ n ih =>
      intro i hi hn
      refine pk_le (20 * p + 20) (20 * p + i) (fun hle => ?_) (fun hlt => ⟨vp_in_nI (by omega) (by decide), ?_⟩) (hx := by rw [ym_e20, ym_e2020])
      · have e : i = 20 := by omega
        subst e
        exact h
      · rw [nI_clamp (by omega)]
        by_cases z : u (20 * p + i) = 0
        · refine br_t z (nm_r (nI_1 _) ?_)
          have := ih (i + 1) (by omega) (by omega)
          rw [ph_ct_s0 z] at this
          exact this
        · refine br_f z (nm_r (nI_1 _) (nm_r (nI_1 _) ?_))
          have := ih (i + 1) (by omega) (by omega)
          rw [ph_ct_s1 z] at this
          exact this
  unfold wpY_count
  dsimp only
  exact nm_r (ym_e20 p) ⟨21, H 21 0 (by omega) (by omega)⟩
theorem ym_unused {post : Int32 → Prop} {p : Nat} (hp : p < 3) (hex : ph_ct u (20 * p) 20 < 20) (h : ∀ s, 20 * p ≤ s → s < 20 * p + 20 → u s = 0 → post (nI s)) : wpY_unused post (k, c, m, u, R, D) (nI p) := by
  have H : ∀ n i, i ≤ 20 → 20 - i < n → (∀ j, j < i → ¬ u (20 * p + j) = 0) → wY_unused_5 post (nI p) k c m u R D n (nI (20 * p + i)) := by
    intro n
    induction n with
    | zero => intro i _ h; omega
    | succ n ih =>
      intro i hi hn hu
      refine pk_le (20 * p + 20) (20 * p + i) (fun hle => ?_) (fun hlt => ⟨vp_in_nI (by omega) (by decide), ?_⟩) (hx := by rw [ym_e20, ym_e2020])
      · obtain ⟨s, h1, h2, h3⟩ := ph_ct_ex hex
        have := hu (s - 20 * p) (by omega)
        rw [show 20 * p + (s - 20 * p) = s by omega] at this
        exact absurd h3 this
      · rw [nI_clamp (by omega)]
        by_cases z : u (20 * p + i) = 0
        · exact br_t z (h _ (by omega) (by omega) z)
        · exact br_f z (nm_r (nI_1 _) (ih (i + 1) (by omega) (by omega) (lt_s hu z)))
  unfold wpY_unused
  dsimp only
  exact nm_r (ym_e20 p) ⟨21, H 21 0 (by omega) (by omega) lt_0⟩
theorem ym_found {post : Int32 → Prop} (h : post (nI (ph_ct R 0 60))) : wpY_found post (k, c, m, u, R, D) := by
  have H : ∀ n i, i ≤ 60 → 60 - i < n → wY_found_4 post k c m u R D n (nI (ph_ct R 0 i)) (nI i) := by
    intro n
    induction n with
    | zero => intro i _ h; omega
    | succ n ih =>
      intro i hi hn
      refine pk_le 60 i (fun hle => ?_) (fun hlt => ⟨vp_in_nI hlt (by decide), ?_⟩)
      · have e : i = 60 := by omega
        subst e
        exact h
      · rw [nI_clamp (by omega)]
        have := ih (i + 1) (by omega) (by omega)
        by_cases z : R i = 0
        · refine br_t z (nm_r (nI_1 _) ?_)
          rw [ph_ct_s0 (by rw [Nat.zero_add]; exact z)] at this
          exact this
        · refine br_f z (nm_r (nI_1 _) (nm_r (nI_1 _) ?_))
          rw [ph_ct_s1 (by rw [Nat.zero_add]; exact z)] at this
          exact this
  exact ⟨61, H 61 0 (by omega) (by omega)⟩
theorem ym_spread {post : SY → Prop} {G : Nat → Prop} (hRG : ∀ t, t < 60 → ¬ R t = 0 → G t) (hG : ∀ t b, t < 60 → b < 2 → G t → k (21 + 2 * t + b) = 2 → ∃ t', t' < 60 ∧ c (21 + 2 * t + b) = nI t' ∧ G t') (h : ∀ R', ph_lf k c (fun t => ¬ R t = 0) (fun t => ¬ R' t = 0) → post (k, c, m, u, R', D)) : wpY_spread post (k, c, m, u, R, D) := by
  have hGc : ph_cl k c G := by
    intro s b t hs hb ht g ho
    obtain ⟨t', ht', e, g'⟩ := hG s b hs hb g ho.1
    have : t' = t := ph_inj (by omega) (by omega) (e.symm.trans ho.2)
    rw [← this]
    exact g'
  have H2 : ∀ (J : Int32 → Int32 → (Nat → Int32) → (Nat → Int32) → (Nat → Int32) → (Nat → Int32) → (Nat → Int32) → (Nat → Int32) → Prop) (r : Nat), (∀ mo R', ph_ro k c (fun t => ¬ R t = 0) (r + 1) mo R' → J mo (nI (r + 1)) k c m u R' D) → ∀ x P mo R', 21 ≤ P → P ≤ 141 → 141 - P < x → ph_ri k c (fun t => ¬ R t = 0) r P mo R' → wY_spread_19 post J (nI r) x mo (nI P) k c m u R' D := by
    intro J r hJ x
    induction x with
    | zero => intro P _ _ _ _ h; omega
    | succ x ih =>
      intro P mo R' hP hP2 hx hri
      refine pk_le 141 P (fun hle => ?_) (fun hlt => ⟨by decide, ?_⟩)
      · have e : P = 141 := by omega
        subst e
        exact nm_r (nI_1 r) (hJ mo R' (ph_ri_e hri))
      · have iP : vp_in (nI P) 141 := vp_in_nI hlt (by decide)
        have e : (nI P - 21) / 2 = nI ((P - 21) / 2) := by
          rw [show (21 : Int32) = nI 21 from rfl, show (2 : Int32) = nI 2 from rfl, pk_sub hP, pk_div (by omega) (by omega) (by omega)]
        rw [e]
        refine ⟨vp_in_nI (by omega) (by decide), ?_⟩
        rw [nI_clamp (n := (P - 21) / 2) (by omega), nI_clamp (n := P) (by omega)]
        by_cases z : R' ((P - 21) / 2) = 0
        · exact br_t z (nm_r (nI_1 P) (ih (P + 1) mo R' (by omega) (by omega) (by omega) (ph_ri_n hri (fun _ _ w => absurd z w))))
        · refine br_f z ⟨iP, ?_⟩
          by_cases k2 : k P = 2
          · have eP : 21 + 2 * ((P - 21) / 2) + (P - 21) % 2 = P := by omega
            have gs : G ((P - 21) / 2) := hri.1.2 G hRG hGc _ (by omega) z
            obtain ⟨t, ht, ec, gt⟩ := hG ((P - 21) / 2) ((P - 21) % 2) (by omega) (by omega) gs (by rw [eP]; exact k2)
            rw [eP] at ec
            rw [ec]
            refine br_t k2 ⟨iP, vp_in_nI ht (by decide), ?_⟩
            rw [nI_clamp (n := t) (by omega), xm_n1]
            by_cases w : R' t = 0
            · refine br_t w ⟨iP, vp_in_nI ht (by decide), nm_e (nm_r (nI_1 P) ?_)⟩
              exact ih (P + 1) 1 _ (by omega) (by omega) (by omega) (ph_ri_s hri hP hlt ht z ⟨k2, ec⟩ w (by decide) (by decide))
            · refine br_f w (nm_r (nI_1 P) ?_)
              refine ih (P + 1) mo R' (by omega) (by omega) (by omega) (ph_ri_n hri (fun t' ht' _ ho => ?_))
              have : t' = t := ph_inj (by omega) (by omega) (ho.2.symm.trans ec)
              rw [this]
              exact w
          · exact br_f k2 (nm_r (nI_1 P) (ih (P + 1) mo R' (by omega) (by omega) (by omega) (ph_ri_n hri (fun _ _ _ ho => absurd ho.1 k2))))
  have H1 : ∀ x r mo R', r ≤ 60 → 60 - r < x → ph_ro k c (fun t => ¬ R t = 0) r mo R' → wY_spread_4 post x mo (nI r) k c m u R' D := by
    intro x
    induction x with
    | zero => intro r _ _ _ h; omega
    | succ x ih =>
      intro r mo R' hr hx hro
      refine pk_le 60 r (fun hle => h R' (ph_ro_e hro (Or.inr hle))) (fun hlt => ?_)
      by_cases z : mo = 0
      · exact br_t z (h R' (ph_ro_e hro (Or.inl z)))
      · refine br_f z ⟨121, ?_⟩
        exact H2 (wY_spread_4 post x) r (fun mo' R2 h2 => ih (r + 1) mo' R2 (by omega) (by omega) h2) 121 21 0 R' (by omega) (by omega) (by omega) (ph_ri_0 hro z)
  exact ⟨61, H1 61 0 1 R (by omega) (by omega) ⟨ph_sp_0, fun _ => Nat.zero_le _, fun z => absurd z (by decide)⟩⟩
theorem ym_clean {post : SY → Prop} {N : Nat → Nat} {p : Nat} (hp : p < 3) (hm : ∀ p, p < 3 → N p ≤ 3 ∧ m p = nI (N p)) (h01 : ph_01 u) (hgy : ∀ y, y < 141 → ph_th u N y → k y = 2 → ∃ t, t < 60 ∧ c y = nI t ∧ ¬ u t = 0) (h : ∀ u' R', ph_01 u' → ph_yc p k c u N u' → post (k, c, m, u', R', D)) : wpY_clean post (k, c, m, u, R, D) (nI p) := by
  have H3 : ∀ x i u' R', ph_lf k c (ph_yr p k c u N) (fun t => ¬ R' t = 0) → i ≤ 20 → 20 - i < x → ph_01 u' → ph_yu p R' u i u' → wY_clean_98 post (nI p) x (nI (20 * p + i)) k c m u' R' D := by
    intro x
    induction x with
    | zero => intro i _ _ _ _ h; omega
    | succ x ih =>
      intro i u' R' hf hi hx hu hyu
      refine pk_le (20 * p + 20) (20 * p + i) (fun hle => ?_) (fun hlt => ⟨vp_in_nI (by omega) (by decide), ?_⟩) (hx := by rw [ym_e20, ym_e2020])
      · have e : i = 20 := by omega
        subst e
        exact h u' R' hu (ph_yu_e hyu hf)
      · have iv : vp_in (nI (20 * p + i)) 60 := vp_in_nI (by omega) (by decide)
        rw [nI_clamp (by omega), xm_n0, xm_n1]
        by_cases z : u' (20 * p + i) = 0
        · refine br_t z ⟨iv, nm_e (nm_r (nI_1 _) ?_)⟩
          exact ih (i + 1) _ R' hf (by omega) (by omega) (ph_01_u hu (Or.inl rfl)) (ph_yu_s hyu (by omega) ⟨fun w => absurd rfl w, fun w => absurd z w.1⟩)
        · refine br_f z ⟨iv, ?_⟩
          by_cases w : R' (20 * p + i) = 0
          · refine br_t w ⟨iv, nm_e (nm_r (nI_1 _) ?_)⟩
            exact ih (i + 1) _ R' hf (by omega) (by omega) (ph_01_u hu (Or.inl rfl)) (ph_yu_s hyu (by omega) ⟨fun y => absurd rfl y, fun y => absurd w y.2⟩)
          · refine br_f w ⟨iv, nm_e (nm_r (nI_1 _) ?_)⟩
            exact ih (i + 1) _ R' hf (by omega) (by omega) (ph_01_u hu (Or.inr rfl)) (ph_yu_s hyu (by omega) ⟨fun _ => ⟨z, w⟩, fun _ => by decide⟩)
  have H2 : ∀ x y R', y ≤ 21 → 21 - y < x → ph_yk p k c u N y R' → wY_clean_23 post (nI p) x (nI y) k c m u R' D := by
    intro x
    induction x with
    | zero => intro y _ _ h; omega
    | succ x ih =>
      intro y R' hy hx hyk
      refine pk_le 21 y (fun hle => ?_) (fun hlt => ?_)
      · have e : y = 21 := by omega
        subst e
        refine ym_spread (G := fun t => ¬ u t = 0) ?_ ?_ (fun R2 hf => ?_)
        · intro t ht z
          obtain ⟨y', hy', _, hth, ho⟩ := (hyk t ht).mp z
          obtain ⟨t', ht', e', g⟩ := hgy y' (by omega) hth ho.1
          have : t' = t := ph_inj (by omega) (by omega) (e'.symm.trans ho.2)
          rw [← this]
          exact g
        · intro t b ht hb g k2
          have e : (21 + 2 * t + b - 21) / 2 = t := by omega
          exact hgy (21 + 2 * t + b) (by omega) (Or.inr (Or.inr ⟨by omega, by rw [e]; exact g⟩)) k2
        · exact nm_r (ym_e20 p) ⟨21, H3 21 0 u R2 (ph_lf_cg (fun t ht => hyk t ht) hf) (by omega) (by omega) h01 ph_yu_0⟩
      · have step : ∀ o, ph_yo y = o → wY_clean_47 post (wY_clean_23 post (nI p) x) (nI p) (nI y) (nI o) k c m u R' D := by
          intro o ho
          have iy : vp_in (nI y) 141 := vp_in_nI (by omega) (by decide)
          have o60 : o < 60 := by
            rw [← ho]
            unfold ph_yo
            split <;> omega
          have nx : ¬ (ph_yo y = p ∧ k y = 2 ∧ ph_th u N y) → wY_clean_23 post (nI p) x (nI (y + 1)) k c m u R' D := fun z => ih (y + 1) R' (by omega) (by omega) (ph_yk_n hyk z)
          refine pk_eq o p (fun e => ⟨iy, ?_⟩) (fun e => nm_r (nI_1 y) (nx (fun z => e (ho.symm.trans z.1))))
          rw [nI_clamp (n := y) (by omega)]
          by_cases k2 : k y = 2
          · refine br_t k2 (ym_there (by omega) hm h01 (fun t r hr => ?_) (fun t => ?_))
            · obtain ⟨s, hs, ec, _⟩ := hgy y (by omega) t k2
              rw [ec]
              refine br_f hr ⟨iy, vp_in_nI hs (by decide), ?_⟩
              rw [nI_clamp (n := s) (by omega), xm_n1]
              exact nm_e (nm_r (nI_1 y) (ih (y + 1) _ (by omega) (by omega) (ph_yk_s hyk (ho.trans e) k2 t hs ec (by decide))))
            · exact br_t rfl (nm_r (nI_1 y) (nx (fun z => t z.2.2)))
          · exact br_f k2 (nm_r (nI_1 y) (nx (fun z => k2 z.2.1)))
        refine pk_le 12 y (fun h12 => ⟨by decide, ?_⟩) (fun h12 => ⟨by decide, ?_⟩)
        · rw [show (nI y - 12) / 3 = nI ((y - 12) / 3) from by rw [show (12 : Int32) = nI 12 from rfl, show (3 : Int32) = nI 3 from rfl, pk_sub h12, pk_div (by omega) (by omega) (by omega)]]
          exact step _ (if_neg (by omega))
        · rw [show nI y / 4 = nI (y / 4) from by rw [show (4 : Int32) = nI 4 from rfl, pk_div (by omega) (by omega) (by omega)]]
          exact step _ (if_pos h12)
  have H1 : ∀ x i R', i ≤ 60 → 60 - i < x → (∀ s, s < i → R' s = 0) → wY_clean_2 post (nI p) x (nI i) k c m u R' D := by
    intro x
    induction x with
    | zero => intro i _ _ h; omega
    | succ x ih =>
      intro i R' hi hx hI
      refine pk_le 60 i (fun hle => ?_) (fun hlt => ⟨vp_in_nI hlt (by decide), ?_⟩)
      · exact ⟨22, H2 22 0 R' (by omega) (by omega) (ph_yk_0 (fun s hs => hI s (by omega)))⟩
      · rw [nI_clamp (by omega), xm_n0]
        refine nm_e (nm_r (nI_1 i) (ih (i + 1) (upd R' i 0) (by omega) (by omega) (fun s hs => ?_)))
        by_cases e : s = i
        · rw [e, pk_us]
        · rw [pk_un e]
          exact hI s (by omega)
  exact ⟨61, H1 61 0 R (by omega) (by omega) lt_0⟩
theorem ym_room {post : Int32 → SY → Prop} {N : Nat → Nat} {p n : Nat} (hp : p < 3) (hn : n ≤ 60) (hm : ∀ p, p < 3 → N p ≤ 3 ∧ m p = nI (N p)) (h01 : ph_01 u) (hgy : ∀ y, y < 141 → ph_th u N y → k y = 2 → ∃ t, t < 60 ∧ c y = nI t ∧ ¬ u t = 0) (h1 : ∀ u' R', ph_01 u' → ph_ym p n k c u N u' → ph_ct u' (20 * p) 20 + n ≤ 20 → post 1 (k, c, m, u', R', D)) (h0 : ∀ u' R', ph_01 u' → ph_ym p n k c u N u' → ¬ ph_ct u' (20 * p) 20 + n ≤ 20 → post 0 (k, c, m, u', R', D)) : wpY_room post (k, c, m, u, R, D) (nI p) (nI n) := by
  have H : ∀ u' R', ph_01 u' → ph_ym p n k c u N u' → wY_room_17 post (nI p) (nI n) k c m u' R' D := by
    intro u' R' h01' hm'
    have hc : ph_ct u' (20 * p) 20 ≤ 60 := by have := ph_ct_le u' (20 * p) 20; omega
    unfold wY_room_17
    refine ym_count hp ?_
    by_cases z : ph_ct u' (20 * p) 20 + n ≤ 20
    · exact br_f (Int32.not_lt.mpr ((ph_room hc hn).mpr z)) (h1 _ _ h01' hm' z)
    · exact br_t (Int32.not_le.mp (fun w => z ((ph_room hc hn).mp w))) (h0 _ _ h01' hm' z)
  have hc : ph_ct u (20 * p) 20 ≤ 60 := by have := ph_ct_le u (20 * p) 20; omega
  unfold wpY_room
  dsimp only
  refine ym_count hp ?_
  by_cases z : ph_ct u (20 * p) 20 + n ≤ 20
  · exact br_t ((ph_room hc hn).mpr z) (H _ _ h01 (Or.inl ⟨z, rfl⟩))
  · refine br_f (fun w => z ((ph_room hc hn).mp w)) ?_
    refine ym_clean hp hm h01 hgy (fun u' R' h01' hx => ?_)
    exact H _ _ h01' (Or.inr ⟨z, hx⟩)
theorem ym_copy1 {post : SY → Prop} {a q : Nat} (ha : a < 141) (hq : q < 141) (hg : k q = 2 → ∃ s, s < 60 ∧ c q = nI s) (h : post (upd k a (k q), upd c a (ph_cv k c D q), m, u, R, D)) : wpY_takeCopy post (k, c, m, u, R, D) (nI a) (nI q) := by
  have iq : vp_in (nI q) 141 := vp_in_nI hq (by decide)
  unfold wpY_takeCopy
  dsimp only
  refine ⟨iq, ?_⟩
  by_cases k2 : k q = 2
  · obtain ⟨s, hs, hv⟩ := hg k2
    rw [ph_cv2 k2 hv hs, k2] at h
    rw [nI_clamp (n := q) (by omega), hv, nI_clamp (n := s) (by omega)]
    exact br_t k2 ⟨iq, vp_in_nI hs (by decide), ym_set ha h⟩
  · rw [ph_cvn k2] at h
    refine br_f (by rw [nI_clamp (n := q) (by omega)]; exact k2) ?_
    exact ym_take hq ha h
theorem ym_mark {post : SY → Prop} {q : Nat} (hq : q < 141) (hk : k q = 2 → ∃ t, t < 60 ∧ c q = nI t ∧ ¬ u t = 0) (hgs : ∀ t b, t < 60 → b < 2 → ¬ u t = 0 → k (21 + 2 * t + b) = 2 → ∃ t', t' < 60 ∧ c (21 + 2 * t + b) = nI t' ∧ ¬ u t' = 0) (h : ∀ R', ph_lf k c (fun t => ph_ho k c q t) (fun t => ¬ R' t = 0) → post (k, c, m, u, R', D)) : wpY_mark post (k, c, m, u, R, D) (nI q) := by
  have iq : vp_in (nI q) 141 := vp_in_nI hq (by decide)
  have H : ∀ x i R', i ≤ 60 → 60 - i < x → (∀ t, t < i → (¬ R' t = 0 ↔ ph_ho k c q t)) → wY_mark_2 post (nI q) x (nI i) k c m u R' D := by
    intro x
    induction x with
    | zero => intro i _ _ h; omega
    | succ x ih =>
      intro i R' hi hx hR
      refine pk_le 60 i (fun hle => ?_) (fun hlt => ⟨iq, ?_⟩)
      · have e : i = 60 := by omega
        subst e
        refine ym_spread (G := fun t => ¬ u t = 0) (fun t ht z => ?_) hgs (fun R2 hf => ?_)
        · have ho := (hR t ht).mp z
          obtain ⟨t', ht', e', g⟩ := hk ho.1
          have : t' = t := ph_inj (by omega) (by omega) (e'.symm.trans ho.2)
          rw [← this]
          exact g
        · exact h R2 (ph_lf_cg (fun t ht => hR t ht) hf)
      · have ii : vp_in (nI i) 60 := vp_in_nI hlt (by decide)
        have go : ∀ y : Int32, (¬ y = 0 ↔ ph_ho k c q i) → wY_mark_2 post (nI q) x (nI (i + 1)) k c m u (upd R' i y) D := by
          intro y hy
          refine ih (i + 1) _ (by omega) (by omega) (fun t ht => ?_)
          by_cases e : t = i
          · rw [e, pk_us]
            exact hy
          · rw [pk_un e]
            exact hR t (by omega)
        rw [nI_clamp (n := q) (by omega), nI_clamp (n := i) (by omega), xm_n0, xm_n1]
        by_cases k2 : k q = 2
        · refine br_t k2 ⟨iq, ?_⟩
          by_cases ec : c q = nI i
          · exact br_t ec ⟨ii, nm_e (nm_r (nI_1 i) (go 1 ⟨fun _ => ⟨k2, ec⟩, fun _ => by decide⟩))⟩
          · exact br_f ec ⟨ii, nm_e (nm_r (nI_1 i) (go 0 ⟨fun z => absurd rfl z, fun z => absurd z.2 ec⟩))⟩
        · exact br_f k2 ⟨ii, nm_e (nm_r (nI_1 i) (go 0 ⟨fun z => absurd rfl z, fun z => absurd z.1 k2⟩))⟩
  exact ⟨61, H 61 0 R (by omega) (by omega) lt_0⟩
end
