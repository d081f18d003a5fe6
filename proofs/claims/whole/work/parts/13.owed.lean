/-! what is owed -/
def i_Rel (_ : Nat) (u : SX) (v : SY) : Prop := ∃ sg N, ph_rel sg N u.2.1 u.2.2.1 u.2.2.2.2.1 u.2.2.2.1 v.1 v.2.1 v.2.2.2.1 v.2.2.1 ∧ ph_01 v.2.2.2.1
theorem i_up {k : Nat} {u : SX} {v : SY} (h : i_Rel k u v) : i_Rel (k + 5) u v := h
theorem ph_mkR {j : Nat} {fc : Int32} {K V M U F I C k c m u R D : Nat → Int32} {sg N : Nat → Nat} (h : ph_rel sg N K V U M k c u m) (h01 : ph_01 u) : i_Rel j (fc, K, V, M, U, F, I, C) (k, c, m, u, R, D) := Exists.intro sg (Exists.intro N (And.intro h h01))
theorem i_vc0 : wpX_init (fun u => wpY_init (fun v => i_Rel 0 u v)) := by
  unfold wpX_init wpY_init
  refine ph_mkR (sg := fun s => s) (N := fun _ => 0) (ph_mk ?_ ?_ ?_ ?_ ?_ ?_ ?_ ?_ ?_) (fun t _ => Or.inl rfl)
  · exact fun p _ => ⟨by omega, rfl, rfl⟩
  · exact fun s _ z => absurd rfl z
  · exact fun s _ _ _ z => absurd rfl z
  · exact fun s _ z => absurd rfl z
  · exact fun p r _ _ => ph_tm_nil
  · exact fun p j _ _ z => absurd z (by omega)
  · exact fun p j _ _ _ => ⟨rfl, rfl⟩
  · exact fun s b _ _ z => absurd rfl z
  · exact fun s b _ _ _ => ⟨rfl, rfl⟩
theorem ph_hg {sg N : Nat → Nat} {K V U M k c u m : Nat → Int32} (h : ph_rel sg N K V U M k c u m) : ∀ q, q < 141 → K q = 2 → ∃ s, s < 60 ∧ V q = nI s := by
  intro q hq k2
  obtain ⟨s, hs, _, _, e⟩ := ph_gx h hq k2
  exact ⟨s, hs, e⟩
theorem ph_hm {sg N : Nat → Nat} {K V U M k c u m : Nat → Int32} (h : ph_rel sg N K V U M k c u m) : ∀ p, p < 3 → N p ≤ 3 ∧ m p = nI (N p) := fun p hp => ⟨(h.1 p hp).1, (h.1 p hp).2.2⟩
theorem i_vc_number {k : Nat} {u : SX} {v : SY} (I : i_Rel k u v) (hk : k + 5 ≤ 2560) (v1 : Int32) (v2 : Int32) (v3 : Int32) : wpX_number (fun r u' => wpY_number (fun r' v' => r' = r ∧ i_Rel (k + 5) u' v') v v1 v2 v3) u v1 v2 v3 := by
  obtain ⟨fc, K, V, M, U, F, J, C⟩ := u
  obtain ⟨ky, c, m, uy, R, D⟩ := v
  obtain ⟨sg, N, h, h01⟩ := I
  dsimp only at h h01
  unfold wpX_number wpY_number
  dsimp only
  by_cases hr : ∃ p r, p < 3 ∧ r < 4 ∧ v1 = nI p ∧ v2 = nI r
  · obtain ⟨p, r, hp, hr, rfl, rfl⟩ := hr
    refine xm_isReg1 hp hr (br_f (by decide) (xm_reg (xm_set (by omega) ?_)))
    refine ym_bad1 hp hr (br_t rfl ?_)
    rw [ym_e4]
    exact ym_set (by omega) ⟨rfl, ph_mkR (ph_setr h hp hr ph_tm_num) h01⟩
  · exact xm_isReg0 hr (br_t rfl (ym_bad0 hr (br_f (by decide) ⟨rfl, ph_mkR h h01⟩)))
theorem i_vc_move {k : Nat} {u : SX} {v : SY} (I : i_Rel k u v) (hk : k + 5 ≤ 2560) (v1 : Int32) (v2 : Int32) (v3 : Int32) : wpX_move (fun r u' => wpY_move (fun r' v' => r' = r ∧ i_Rel (k + 5) u' v') v v1 v2 v3) u v1 v2 v3 := by
  obtain ⟨fc, K, V, M, U, F, J, C⟩ := u
  obtain ⟨ky, c, m, uy, R, D⟩ := v
  obtain ⟨sg, N, h, h01⟩ := I
  dsimp only at h h01
  unfold wpX_move wpY_move
  dsimp only
  by_cases hr : ∃ p r, p < 3 ∧ r < 4 ∧ v1 = nI p ∧ v2 = nI r
  · obtain ⟨p, r, hp, hr, rfl, rfl⟩ := hr
    by_cases hs : ∃ s, s < 4 ∧ v3 = nI s
    · obtain ⟨s, hs, rfl⟩ := hs
      refine xm_isReg1 hp hr (br_f (by decide) (xm_isReg1 hp hs (br_f (by decide) (xm_reg (xm_reg ?_)))))
      rw [nI_clamp (n := 7 * p + s) (by omega)]
      refine ⟨vp_in_nI (by omega) (by decide), vp_in_nI (by omega) (by decide), xm_set (by omega) ?_⟩
      refine ym_bad1 hp hr (br_t rfl (ym_bad1 hp hs (br_t rfl ?_)))
      rw [ym_e4 p r, ym_e4 p s]
      exact ym_take (by omega) (by omega) ⟨rfl, ph_mkR (ph_setr h hp hr (ph_reg h hp hs)) h01⟩
    · have hs' : ¬ ∃ p' r', p' < 3 ∧ r' < 4 ∧ nI p = nI p' ∧ v3 = nI r' := fun ⟨_, r', _, hr', _, e⟩ => hs ⟨r', hr', e⟩
      exact xm_isReg1 hp hr (br_f (by decide) (xm_isReg0 hs' (br_t rfl (ym_bad1 hp hr (br_t rfl (ym_bad0 hs' (br_f (by decide) ⟨rfl, ph_mkR h h01⟩)))))))
  · exact xm_isReg0 hr (br_t rfl (ym_bad0 hr (br_f (by decide) ⟨rfl, ph_mkR h h01⟩)))
theorem i_vc_nil {k : Nat} {u : SX} {v : SY} (I : i_Rel k u v) (hk : k + 5 ≤ 2560) (v1 : Int32) (v2 : Int32) : wpX_nil (fun r u' => wpY_nil (fun r' v' => r' = r ∧ i_Rel (k + 5) u' v') v v1 v2) u v1 v2 := by
  obtain ⟨fc, K, V, M, U, F, J, C⟩ := u
  obtain ⟨ky, c, m, uy, R, D⟩ := v
  obtain ⟨sg, N, h, h01⟩ := I
  dsimp only at h h01
  unfold wpX_nil wpY_nil
  dsimp only
  by_cases hr : ∃ p r, p < 3 ∧ r < 4 ∧ v1 = nI p ∧ v2 = nI r
  · obtain ⟨p, r, hp, hr, rfl, rfl⟩ := hr
    refine xm_isReg1 hp hr (br_f (by decide) (xm_reg (xm_set (by omega) ?_)))
    refine ym_bad1 hp hr (br_t rfl ?_)
    rw [ym_e4]
    exact ym_set (by omega) ⟨rfl, ph_mkR (ph_setr h hp hr ph_tm_nil) h01⟩
  · exact xm_isReg0 hr (br_t rfl (ym_bad0 hr (br_f (by decide) ⟨rfl, ph_mkR h h01⟩)))
theorem i_vc_blob {k : Nat} {u : SX} {v : SY} (I : i_Rel k u v) (hk : k + 5 ≤ 2560) (v1 : Int32) (v2 : Int32) : wpX_blob (fun r u' => wpY_blob (fun r' v' => r' = r ∧ i_Rel (k + 5) u' v') v v1 v2) u v1 v2 := by
  obtain ⟨fc, K, V, M, U, F, J, C⟩ := u
  obtain ⟨ky, c, m, uy, R, D⟩ := v
  obtain ⟨sg, N, h, h01⟩ := I
  dsimp only at h h01
  unfold wpX_blob
  dsimp only
  by_cases hr : ∃ p r, p < 3 ∧ r < 4 ∧ v1 = nI p ∧ v2 = nI r
  · obtain ⟨p, r, hp, hr, rfl, rfl⟩ := hr
    have iq : vp_in (nI (7 * p + r)) 141 := vp_in_nI (by omega) (by decide)
    have eqv : ∀ x : Int32, (∃ q, q < 141 ∧ upd K (7 * p + r) 0 q = 3 ∧ upd V (7 * p + r) 0 q = x) ↔ (∃ y, y < 141 ∧ nI y ≠ nI (4 * p + r) ∧ ky y = 3 ∧ c y = x ∧ ph_th uy N y) := by
      intro x
      rw [← ph_blob h x (fun q => q ≠ 7 * p + r) (fun y => nI y ≠ nI (4 * p + r)) ?_]
      · constructor
        · intro ⟨q, hq, e1, e2⟩
          by_cases e : q = 7 * p + r
          · rw [e, pk_us] at e1
            exact absurd e1 (by decide)
          · rw [pk_un e] at e1 e2
            exact ⟨q, hq, e, e1, e2⟩
        · intro ⟨q, hq, e, e1, e2⟩
          exact ⟨q, hq, by rw [pk_un e]; exact e1, by rw [pk_un e]; exact e2⟩
      · intro q hq hl
        constructor
        · intro z w
          have lt := (ph_thq h hq hl).1
          have w' := ph_inj (by omega) (by omega) w
          exact z (ph_yp_inj h.2.2.1 hq (by omega) hl (ph_live_reg hp hr) (w'.trans (ph_yp_reg hp hr).symm))
        · intro z w
          refine z ?_
          rw [w, ph_yp_reg hp hr]
    refine xm_isReg1 hp hr (br_f (by decide) (xm_reg ?_))
    rw [nI_clamp (n := 7 * p + r) (by omega)]
    refine ⟨iq, nm_e ⟨iq, nm_e (xm_set (by omega) (xm_free (fun b hb hB hN => ?_)))⟩⟩
    refine pk_lt b 6 (fun hlt => xm_set (by omega) ?_) (fun hle => xm_set (by omega) ?_)
    · refine ym_blob hp hr (ph_hm h) h01 hb (fun j hj => (eqv _).mp (hB j hj)) (fun z w => hN z ((eqv _).mpr w)) (fun _ => ?_) (fun e => absurd e (by omega))
      rw [ph_uu, ph_uu]
      exact ⟨rfl, ph_mkR (ph_setr h hp hr ph_tm_blob) h01⟩
    · refine ym_blob hp hr (ph_hm h) h01 hb (fun j hj => (eqv _).mp (hB j hj)) (fun z w => hN z ((eqv _).mpr w)) (fun z => absurd z (by omega)) (fun _ => ?_)
      rw [ph_ur, ph_ur]
      exact ⟨rfl, ph_mkR h h01⟩
  · refine xm_isReg0 hr (br_t rfl ?_)
    unfold wpY_blob
    dsimp only
    exact ym_bad0 hr (br_f (by decide) ⟨rfl, ph_mkR h h01⟩)
theorem i_vc_part {k : Nat} {u : SX} {v : SY} (I : i_Rel k u v) (hk : k + 5 ≤ 2560) (v1 : Int32) (v2 : Int32) (v3 : Int32) (v4 : Int32) : wpX_part (fun r u' => wpY_part (fun r' v' => r' = r ∧ i_Rel (k + 5) u' v') v v1 v2 v3 (lw_bz v4)) u v1 v2 v3 (lw_bz v4) := by
  obtain ⟨fc, K, V, M, U, F, J, C⟩ := u
  obtain ⟨ky, c, m, uy, R, D⟩ := v
  obtain ⟨sg, N, h, h01⟩ := I
  dsimp only at h h01
  unfold wpX_part wpY_part
  dsimp only
  by_cases hr : ∃ p r, p < 3 ∧ r < 4 ∧ v1 = nI p ∧ v2 = nI r
  · obtain ⟨p, r, hp, hr, rfl, rfl⟩ := hr
    by_cases hs : ∃ s, s < 4 ∧ v3 = nI s
    · obtain ⟨s, hs, rfl⟩ := hs
      have iq : vp_in (nI (7 * p + s)) 141 := vp_in_nI (by omega) (by decide)
      have iy : vp_in (nI (4 * p + s)) 141 := vp_in_nI (by omega) (by decide)
      have tm := ph_reg h hp hs
      rw [ym_e4 p r, ym_e4 p s, nI_clamp (n := 4 * p + s) (by omega)]
      refine xm_isReg1 hp hr (br_f (by decide) (xm_isReg1 hp hs (br_f (by decide) (xm_reg ⟨iq, ?_⟩))))
      rw [nI_clamp (n := 7 * p + s) (by omega)]
      by_cases k2 : K (7 * p + s) = 2
      · obtain ⟨ky2, t, ht, htp, hut, hv, hc⟩ := ph_tm_x tm k2
        have sgt := h.2.1 t ht hut
        rw [hv, hc]
        refine br_t k2 (xm_reg ⟨iq, xm_head ?_⟩)
        by_cases z : lw_bz v4 = 0
        · refine br_t z (nm_r (nI_1 _) ⟨vp_in_nI (by omega) (by decide), vp_in_nI (by omega) (by decide), ?_⟩)
          rw [nI_clamp (n := 21 + 2 * t + 1) (by omega)]
          refine xm_set (by omega) (ym_bad1 hp hr (br_t rfl (ym_bad1 hp hs (br_t rfl ⟨iy, br_t ky2 ⟨iy, nm_e (br_t z ?_)⟩⟩))))
          rw [ym_e22]
          refine ym_take (by omega) (by omega) ⟨rfl, ph_mkR (ph_setr h hp hr ?_) h01⟩
          have := ph_cell h (b := 1) ht (by omega) hut
          rw [htp] at this
          exact this
        · refine br_f z ⟨vp_in_nI (by omega) (by decide), vp_in_nI (by omega) (by decide), ?_⟩
          rw [nI_clamp (n := 21 + 2 * t) (by omega)]
          refine xm_set (by omega) (ym_bad1 hp hr (br_t rfl (ym_bad1 hp hs (br_t rfl ⟨iy, br_t ky2 ⟨iy, nm_e (br_f z ?_)⟩⟩))))
          rw [xm_e21]
          refine ym_take (by omega) (by omega) ⟨rfl, ph_mkR (ph_setr h hp hr ?_) h01⟩
          have := ph_cell h (b := 0) ht (by omega) hut
          rw [htp] at this
          exact this
      · refine br_f k2 (ym_bad1 hp hr (br_t rfl (ym_bad1 hp hs (br_t rfl ⟨iy, br_f (fun z => k2 (tm.1.symm.trans z)) ⟨rfl, ph_mkR h h01⟩⟩))))
    · have hs' : ¬ ∃ p' r', p' < 3 ∧ r' < 4 ∧ nI p = nI p' ∧ v3 = nI r' := fun ⟨_, r', _, hr', _, e⟩ => hs ⟨r', hr', e⟩
      exact xm_isReg1 hp hr (br_f (by decide) (xm_isReg0 hs' (br_t rfl (ym_bad1 hp hr (br_t rfl (ym_bad0 hs' (br_f (by decide) ⟨rfl, ph_mkR h h01⟩)))))))
  · exact xm_isReg0 hr (br_t rfl (ym_bad0 hr (br_f (by decide) ⟨rfl, ph_mkR h h01⟩)))
theorem i_vc_collect {k : Nat} {u : SX} {v : SY} (I : i_Rel k u v) (hk : k + 5 ≤ 2560) (v1 : Int32) : wpX_collect (fun r u' => wpY_collect (fun r' v' => r' = r ∧ i_Rel (k + 5) u' v') v v1) u v1 := by
  obtain ⟨fc, K, V, M, U, F, J, C⟩ := u
  obtain ⟨ky, c, m, uy, R, D⟩ := v
  obtain ⟨sg, N, h, h01⟩ := I
  dsimp only at h h01
  unfold wpX_collect wpY_collect
  dsimp only
  by_cases hp : ∃ p, p < 3 ∧ v1 = nI p
  · obtain ⟨p, hp, rfl⟩ := hp
    refine xm_isProc1 hp (br_f (by decide) (xm_clean hp (ph_hg h) (fun fc' K' V' U' F' I' hx => xm_count hp ?_)))
    refine ym_badp1 hp (br_t rfl (ym_clean hp (ph_hm h) h01 (fun y hy ht k2 => ph_gy h hy ht k2) (fun u' R' h01' hy => ym_count hp ?_)))
    have h' := ph_clean2 h hp hx hy
    rw [ph_cnt h' hp]
    exact ⟨rfl, ph_mkR h' h01'⟩
  · have hp' : ∀ p, p < 3 → v1 ≠ nI p := fun p h3 e => hp ⟨p, h3, e⟩
    exact xm_isProc0 hp' (br_t rfl (ym_badp0 hp' (br_f (by decide) ⟨rfl, ph_mkR h h01⟩)))
theorem i_vc_restart {k : Nat} {u : SX} {v : SY} (I : i_Rel k u v) (hk : k + 5 ≤ 2560) (v1 : Int32) : wpX_restart (fun r u' => wpY_restart (fun r' v' => r' = r ∧ i_Rel (k + 5) u' v') v v1) u v1 := by
  obtain ⟨fc, K, V, M, U, F, J, C⟩ := u
  obtain ⟨ky, c, m, uy, R, D⟩ := v
  obtain ⟨sg, N, h, h01⟩ := I
  dsimp only at h h01
  by_cases hp : ∃ p, p < 3 ∧ v1 = nI p
  · obtain ⟨p, hp, rfl⟩ := hp
    refine xm_restart hp (ph_hg h) (fun fc' K1 V1 K' V' U' F' I' a1 a3 hx => ?_)
    refine ym_restart hp h01 (fun k' c' u' b1 b3 h01' hu => ⟨rfl, ?_⟩)
    have h1 := ph_wipe h hp a1 a3 b1 b3
    refine ph_mkR (ph_clean2 h1 hp hx ⟨fun _ => False, ⟨?_, ?_, ?_⟩, hu⟩) h01'
    · intro t ht ⟨y, hy, hyo, hth, ho⟩
      rcases hth with w | w | w
      · unfold ph_yo at hyo
        rw [if_pos w] at hyo
        have := b1 (y % 4) (by omega)
        rw [show 4 * p + y % 4 = y by omega, ho.1] at this
        exact absurd this (by decide)
      · unfold ph_yo at hyo
        rw [if_neg (by omega)] at hyo
        have := w.2.2
        rw [hyo, ph_nus] at this
        omega
      · omega
    · intro s b t _ _ _ z _
      exact z
    · intro S' _ _ t _ z
      exact absurd z id
  · have hp' : ∀ p, p < 3 → v1 ≠ nI p := fun p h3 e => hp ⟨p, h3, e⟩
    unfold wpX_restart wpY_restart
    dsimp only
    exact xm_isProc0 hp' (br_t rfl (ym_badp0 hp' (br_f (by decide) ⟨rfl, ph_mkR h h01⟩)))
theorem i_vc_kind {k : Nat} {u : SX} {v : SY} (I : i_Rel k u v) (hk : k + 5 ≤ 2560) (v1 : Int32) (v2 : Int32) : wpX_kind (fun r => wpY_kind (fun r' => r' = r ∧ i_Rel (k + 5) u v) v v1 v2) u v1 v2 := by
  obtain ⟨fc, K, V, M, U, F, J, C⟩ := u
  obtain ⟨ky, c, m, uy, R, D⟩ := v
  obtain ⟨sg, N, h, h01⟩ := I
  dsimp only at h h01
  unfold wpX_kind wpY_kind
  dsimp only
  by_cases hr : ∃ p r, p < 3 ∧ r < 4 ∧ v1 = nI p ∧ v2 = nI r
  · obtain ⟨p, r, hp, hr, rfl, rfl⟩ := hr
    rw [ym_e4 p r, nI_clamp (n := 4 * p + r) (by omega)]
    refine xm_isReg1 hp hr (br_f (by decide) (xm_reg ⟨vp_in_nI (by omega) (by decide), ?_⟩))
    rw [nI_clamp (n := 7 * p + r) (by omega)]
    exact ym_bad1 hp hr (br_t rfl ⟨vp_in_nI (by omega) (by decide), (ph_reg h hp hr).1, ph_mkR h h01⟩)
  · exact xm_isReg0 hr (br_t rfl (ym_bad0 hr (br_f (by decide) ⟨rfl, ph_mkR h h01⟩)))
theorem i_vc_value {k : Nat} {u : SX} {v : SY} (I : i_Rel k u v) (hk : k + 5 ≤ 2560) (v1 : Int32) (v2 : Int32) : wpX_value (fun r => wpY_value (fun r' => r' = r ∧ i_Rel (k + 5) u v) v v1 v2) u v1 v2 := by
  obtain ⟨fc, K, V, M, U, F, J, C⟩ := u
  obtain ⟨ky, c, m, uy, R, D⟩ := v
  obtain ⟨sg, N, h, h01⟩ := I
  dsimp only at h h01
  unfold wpX_value wpY_value
  dsimp only
  by_cases hr : ∃ p r, p < 3 ∧ r < 4 ∧ v1 = nI p ∧ v2 = nI r
  · obtain ⟨p, r, hp, hr, rfl, rfl⟩ := hr
    have iq : vp_in (nI (7 * p + r)) 141 := vp_in_nI (by omega) (by decide)
    have iy : vp_in (nI (4 * p + r)) 141 := vp_in_nI (by omega) (by decide)
    have y31 : ∀ post : Int32 → Prop, post (c (4 * p + r)) → wY_value_31 post (nI p) (nI r) ky c m uy R D := by
      intro post hpost
      unfold wY_value_31
      rw [ym_e4 p r, nI_clamp (n := 4 * p + r) (by omega)]
      exact ⟨iy, hpost⟩
    obtain ⟨e, tm⟩ := ph_reg h hp hr
    rw [ym_e4 p r, nI_clamp (n := 4 * p + r) (by omega)]
    refine xm_isReg1 hp hr (br_f (by decide) (xm_reg ⟨iq, ?_⟩))
    rw [nI_clamp (n := 7 * p + r) (by omega)]
    rcases tm with ⟨a, b⟩ | ⟨a, b⟩ | ⟨a, b⟩ | ⟨a, b⟩
    · refine br_f (by rw [a]; decide) ⟨iq, ym_bad1 hp hr (br_t rfl ⟨iy, nm_e (br_f (by rw [e, a]; decide) (br_f (by rw [e, a]; decide) ⟨b.symm, ph_mkR h h01⟩))⟩)⟩
    · refine br_f (by rw [a]; decide) ⟨iq, ym_bad1 hp hr (br_t rfl ⟨iy, nm_e (br_t (e.trans a) (y31 _ ⟨b, ph_mkR h h01⟩))⟩)⟩
    · refine br_f (by rw [a]; decide) ⟨iq, ym_bad1 hp hr (br_t rfl ⟨iy, nm_e (br_f (by rw [e, a]; decide) (br_t (e.trans a) (y31 _ ⟨b, ph_mkR h h01⟩)))⟩)⟩
    · refine br_t a (ym_bad1 hp hr (br_t rfl ⟨iy, nm_e (br_f (by rw [e, a]; decide) (br_f (by rw [e, a]; decide) ⟨rfl, ph_mkR h h01⟩))⟩))
  · exact xm_isReg0 hr (br_t rfl (ym_bad0 hr (br_f (by decide) ⟨rfl, ph_mkR h h01⟩)))
theorem i_vc_pairs {k : Nat} {u : SX} {v : SY} (I : i_Rel k u v) (hk : k + 5 ≤ 2560) (v1 : Int32) : wpX_pairs (fun r => wpY_pairs (fun r' => r' = r ∧ i_Rel (k + 5) u v) v v1) u v1 := by
  obtain ⟨fc, K, V, M, U, F, J, C⟩ := u
  obtain ⟨ky, c, m, uy, R, D⟩ := v
  obtain ⟨sg, N, h, h01⟩ := I
  dsimp only at h h01
  unfold wpX_pairs wpY_pairs
  dsimp only
  by_cases hp : ∃ p, p < 3 ∧ v1 = nI p
  · obtain ⟨p, hp, rfl⟩ := hp
    refine xm_isProc1 hp (br_f (by decide) (xm_count hp (ym_badp1 hp (br_t rfl (ym_count hp ?_)))))
    rw [ph_cnt h hp]
    exact ⟨rfl, ph_mkR h h01⟩
  · have hp' : ∀ p, p < 3 → v1 ≠ nI p := fun p h3 e => hp ⟨p, h3, e⟩
    exact xm_isProc0 hp' (br_t rfl (ym_badp0 hp' (br_f (by decide) ⟨rfl, ph_mkR h h01⟩)))
theorem i_vc_blobs {k : Nat} {u : SX} {v : SY} (I : i_Rel k u v) (hk : k + 5 ≤ 2560) : wpX_blobs (fun r => wpY_blobs (fun r' => r' = r ∧ i_Rel (k + 5) u v) v) u := by
  obtain ⟨fc, K, V, M, U, F, J, C⟩ := u
  obtain ⟨ky, c, m, uy, R, D⟩ := v
  obtain ⟨sg, N, h, h01⟩ := I
  dsimp only at h h01
  obtain ⟨f, hf⟩ := ph_bex (fun j => ∃ q, q < 141 ∧ K q = 3 ∧ V q = nI j)
  refine xm_blobs (f := f) (fun j _ => hf j) (ym_blobs (f := f) (ph_hm h) h01 (fun j _ => (hf j).trans ?_) ⟨rfl, ph_mkR h h01⟩)
  have b := ph_blob h (nI j) (fun _ => True) (fun _ => True) (fun _ _ _ => Iff.rfl)
  constructor
  · intro ⟨q, hq, e1, e2⟩
    obtain ⟨y, hy, _, e3, e4, e5⟩ := b.mp ⟨q, hq, trivial, e1, e2⟩
    refine ⟨y, hy, fun z => ?_, e3, e4, e5⟩
    have w := nI_pos (n := y) (by omega)
    rw [z] at w
    exact w (by decide)
  · intro ⟨y, hy, _, e3, e4, e5⟩
    obtain ⟨q, hq, _, e1, e2⟩ := b.mpr ⟨y, hy, trivial, e3, e4, e5⟩
    exact ⟨q, hq, e1, e2⟩
