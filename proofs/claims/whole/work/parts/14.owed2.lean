/-! what is owed: same, receive, pair, send -/
theorem ph_sm {sg N : Nat → Nat} {K V U M k c u m : Nat → Int32} (h : ph_rel sg N K V U M k c u m) {p r s : Nat} (hp : p < 3) (hr : r < 4) (hs : s < 4) (ek : K (7 * p + r) = K (7 * p + s)) (hz : ¬ k (4 * p + r) = 0) : V (7 * p + r) = V (7 * p + s) ↔ c (4 * p + r) = c (4 * p + s) := by
  obtain ⟨e1, t1⟩ := ph_reg h hp hr
  obtain ⟨e2, t2⟩ := ph_reg h hp hs
  rw [← ek] at t2
  rcases t1 with ⟨a, b⟩ | ⟨a, b⟩ | ⟨a, b⟩ | ⟨a, x, hx, _, ux, vx, cx⟩
  · exact absurd (e1.trans a) hz
  · rcases t2 with ⟨a', b'⟩ | ⟨a', b'⟩ | ⟨a', b'⟩ | ⟨a', b'⟩
    · rw [a] at a'; exact absurd a' (by decide)
    · rw [b, b']
    · rw [a] at a'; exact absurd a' (by decide)
    · rw [a] at a'; exact absurd a' (by decide)
  · rcases t2 with ⟨a', b'⟩ | ⟨a', b'⟩ | ⟨a', b'⟩ | ⟨a', b'⟩
    · rw [a] at a'; exact absurd a' (by decide)
    · rw [a] at a'; exact absurd a' (by decide)
    · rw [b, b']
    · rw [a] at a'; exact absurd a' (by decide)
  · rcases t2 with ⟨a', b'⟩ | ⟨a', b'⟩ | ⟨a', b'⟩ | ⟨a', y, hy, _, uy, vy, cy⟩
    · rw [a] at a'; exact absurd a' (by decide)
    · rw [a] at a'; exact absurd a' (by decide)
    · rw [a] at a'; exact absurd a' (by decide)
    · have gx := (h.2.1 x hx ux).1
      have gy := (h.2.1 y hy uy).1
      rw [vx, vy, cx, cy]
      constructor
      · intro z
        rw [ph_inj (by omega) (by omega) z]
      · intro z
        rw [h.2.2.1 x y hx hy ux uy (ph_inj (by omega) (by omega) z)]
theorem i_vc_same {k : Nat} {u : SX} {v : SY} (I : i_Rel k u v) (hk : k + 5 ≤ 2560) (v1 : Int32) (v2 : Int32) (v3 : Int32) : wpX_same (fun r => wpY_same (fun r' => r' = r ∧ i_Rel (k + 5) u v) v v1 v2 v3) u v1 v2 v3 := by
  obtain ⟨fc, K, V, M, U, F, J, C⟩ := u
  obtain ⟨ky, c, m, uy, R, D⟩ := v
  obtain ⟨sg, N, h, h01⟩ := I
  dsimp only at h h01
  unfold wpX_same wpY_same
  dsimp only
  by_cases hr : ∃ p r, p < 3 ∧ r < 4 ∧ v1 = nI p ∧ v2 = nI r
  · obtain ⟨p, r, hp, hr, rfl, rfl⟩ := hr
    by_cases hs : ∃ s, s < 4 ∧ v3 = nI s
    · obtain ⟨s, hs, rfl⟩ := hs
      have i1 : vp_in (nI (7 * p + r)) 141 := vp_in_nI (by omega) (by decide)
      have i2 : vp_in (nI (7 * p + s)) 141 := vp_in_nI (by omega) (by decide)
      have j1 : vp_in (nI (4 * p + r)) 141 := vp_in_nI (by omega) (by decide)
      have j2 : vp_in (nI (4 * p + s)) 141 := vp_in_nI (by omega) (by decide)
      have q1 : (nI (4 * p + r)).toNatClampNeg = 4 * p + r := nI_clamp (by omega)
      have q2 : (nI (4 * p + s)).toNatClampNeg = 4 * p + s := nI_clamp (by omega)
      have t1 := ph_reg h hp hr
      have t2 := ph_reg h hp hs
      have Y : ∀ r0 : Int32, (K (7 * p + r) = K (7 * p + s) ∧ V (7 * p + r) = V (7 * p + s) → r0 = 1) → (¬ (K (7 * p + r) = K (7 * p + s) ∧ V (7 * p + r) = V (7 * p + s)) → r0 = 0) → wpY_same (fun r' => r' = r0 ∧ i_Rel (k + 5) (fc, K, V, M, U, F, J, C) (ky, c, m, uy, R, D)) (ky, c, m, uy, R, D) (nI p) (nI r) (nI s) := by
        intro r0 g1 g0
        unfold wpY_same
        dsimp only
        refine ym_bad1 hp hr (br_t rfl (ym_bad1 hp hs (br_t rfl (nm_r (ym_e4 p r) (nm_r (ym_e4 p s) ⟨j1, j2, ?_⟩)))))
        rw [q1, q2]
        by_cases ek : ky (4 * p + r) = ky (4 * p + s)
        · have ek' : K (7 * p + r) = K (7 * p + s) := t1.1.symm.trans (ek.trans t2.1)
          refine br_t ek ⟨j1, ?_⟩
          by_cases z : ky (4 * p + r) = 0
          · refine br_t z ⟨(g1 ⟨ek', ?_⟩).symm, ph_mkR h h01⟩
            have z1 : K (7 * p + r) = 0 := t1.1.symm.trans z
            have z2 : K (7 * p + s) = 0 := ek'.symm.trans z1
            have w1 : V (7 * p + r) = 0 := by
              rcases t1.2 with w | w | w | w
              · exact w.2
              · rw [z1] at w; exact absurd w.1 (by decide)
              · rw [z1] at w; exact absurd w.1 (by decide)
              · rw [z1] at w; exact absurd w.1 (by decide)
            have w2 : V (7 * p + s) = 0 := by
              rcases t2.2 with w | w | w | w
              · exact w.2
              · rw [z2] at w; exact absurd w.1 (by decide)
              · rw [z2] at w; exact absurd w.1 (by decide)
              · rw [z2] at w; exact absurd w.1 (by decide)
            exact w1.trans w2.symm
          · refine br_f z ⟨j1, j2, ?_⟩
            have sm := ph_sm h hp hr hs ek' z
            by_cases ec : c (4 * p + r) = c (4 * p + s)
            · exact br_t ec ⟨(g1 ⟨ek', sm.mpr ec⟩).symm, ph_mkR h h01⟩
            · exact br_f ec ⟨(g0 (fun w => ec (sm.mp w.2))).symm, ph_mkR h h01⟩
        · exact br_f ek ⟨(g0 (fun w => ek (t1.1.trans (w.1.trans t2.1.symm)))).symm, ph_mkR h h01⟩
      unfold wpY_same at Y
      dsimp only at Y
      refine xm_isReg1 hp hr (br_f (by decide) (xm_isReg1 hp hs (br_f (by decide) (xm_reg (xm_reg ⟨i1, i2, ?_⟩)))))
      rw [nI_clamp (n := 7 * p + r) (by omega), nI_clamp (n := 7 * p + s) (by omega)]
      by_cases ek : K (7 * p + r) = K (7 * p + s)
      · refine br_t ek ⟨i1, i2, ?_⟩
        by_cases ev : V (7 * p + r) = V (7 * p + s)
        · exact br_t ev (Y 1 (fun _ => rfl) (fun z => absurd ⟨ek, ev⟩ z))
        · exact br_f ev (Y 0 (fun z => absurd z.2 ev) (fun _ => rfl))
      · exact br_f ek (Y 0 (fun z => absurd z.1 ek) (fun _ => rfl))
    · have hs' : ¬ ∃ p' r', p' < 3 ∧ r' < 4 ∧ nI p = nI p' ∧ v3 = nI r' := fun ⟨_, r', _, hr', _, e⟩ => hs ⟨r', hr', e⟩
      exact xm_isReg1 hp hr (br_f (by decide) (xm_isReg0 hs' (br_t rfl (ym_bad1 hp hr (br_t rfl (ym_bad0 hs' (br_f (by decide) ⟨rfl, ph_mkR h h01⟩)))))))
  · exact xm_isReg0 hr (br_t rfl (ym_bad0 hr (br_f (by decide) ⟨rfl, ph_mkR h h01⟩)))
theorem i_vc_receive {k : Nat} {u : SX} {v : SY} (I : i_Rel k u v) (hk : k + 5 ≤ 2560) (v1 : Int32) (v2 : Int32) : wpX_receive (fun r u' => wpY_receive (fun r' v' => r' = r ∧ i_Rel (k + 5) u' v') v v1 v2) u v1 v2 := by
  obtain ⟨fc, K, V, M, U, F, J, C⟩ := u
  obtain ⟨ky, c, m, uy, R, D⟩ := v
  obtain ⟨sg, N, h, h01⟩ := I
  dsimp only at h h01
  unfold wpX_receive wpY_receive
  dsimp only
  by_cases hr : ∃ p r, p < 3 ∧ r < 4 ∧ v1 = nI p ∧ v2 = nI r
  · obtain ⟨p, r, hp, hr, rfl, rfl⟩ := hr
    obtain ⟨n3, eM, em⟩ := h.1 p hp
    have ip : vp_in (nI p) 3 := vp_in_nI hp (by decide)
    have ep : (nI p).toNatClampNeg = p := nI_clamp (by omega)
    have eb : 12 + 3 * nI p = nI (12 + 3 * p) := by
      rw [show (12 : Int32) = nI 12 from rfl, show (3 : Int32) = nI 3 from rfl, pk_mul, nI_add]
    rw [ep, eb]
    refine xm_isReg1 hp hr (br_f (by decide) ⟨ip, ?_⟩)
    rw [eM, em]
    refine pk_lt 0 (N p) (fun hn => ?_) (fun hn => ?_)
    · have e1 : nI (N p) - 1 = nI (N p - 1) := by
        rw [show N p = N p - 1 + 1 by omega, nI_pred]
        rfl
      refine xm_reg (xm_mailc (j := 0) ⟨vp_in_nI (by omega) (by decide), vp_in_nI (by omega) (by decide), ?_⟩)
      rw [nI_clamp (n := 7 * p + 4 + 0) (by omega)]
      refine xm_set (by omega) ?_
      dsimp only
      refine xm_drop hp ?_
      dsimp only
      rw [eM, e1]
      refine ym_bad1 hp hr (br_t rfl ⟨ip, br_f (nI_ne0 hn (by omega)) (nm_e ?_)⟩)
      rw [ym_e4 p r, nI_1 (12 + 3 * p), show nI (12 + 3 * p) + 2 = nI (12 + 3 * p + 1 + 1) from nI_add (12 + 3 * p) 2]
      refine ym_take (by omega) (by omega) ?_
      dsimp only
      refine ym_take (by omega) (by omega) ?_
      dsimp only
      refine ym_take (by omega) (by omega) ?_
      dsimp only
      refine ⟨ip, ip, nm_r (e' := upd m p (nI (N p - 1))) ?_ ⟨rfl, ?_⟩⟩
      · rw [em, e1]
      · have h1 := ph_setr h hp hr (ph_mail h (j := 0) hp hn)
        refine ph_mkR (ph_shift h1 hp hn (fun j hj => ⟨ph_sh_j hj, ph_sh_j hj⟩) ⟨ph_sh_2, ph_sh_2⟩ (fun q _ hq => ⟨ph_sh_n hq, ph_sh_n hq⟩) (fun j hj => ?_) (fun y _ hy => ?_)) h01
        · by_cases e : j = 0
          · subst e
            exact ⟨(pk_un (by omega)).trans pk_us, (pk_un (by omega)).trans pk_us⟩
          · have e : j = 1 := by omega
            subst e
            exact ⟨pk_us.trans (pk_un (by omega)), pk_us.trans (pk_un (by omega))⟩
        · have y0 := hy 0 (by omega)
          have y1 := hy 1 (by omega)
          exact ⟨(pk_un (by omega)).trans (pk_un (by omega)), (pk_un (by omega)).trans (pk_un (by omega))⟩
    · have e0 : N p = 0 := by omega
      rw [e0]
      exact ym_bad1 hp hr (br_t rfl ⟨ip, br_t rfl ⟨rfl, ph_mkR h h01⟩⟩)
  · exact xm_isReg0 hr (br_t rfl (ym_bad0 hr (br_f (by decide) ⟨rfl, ph_mkR h h01⟩)))
theorem i_vc_pair {k : Nat} {u : SX} {v : SY} (I : i_Rel k u v) (hk : k + 5 ≤ 2560) (v1 : Int32) (v2 : Int32) (v3 : Int32) (v4 : Int32) : wpX_pair (fun r u' => wpY_pair (fun r' v' => r' = r ∧ i_Rel (k + 5) u' v') v v1 v2 v3 v4) u v1 v2 v3 v4 := by
  obtain ⟨fc, K, V, M, U, F, J, C⟩ := u
  obtain ⟨ky, c, m, uy, R, D⟩ := v
  obtain ⟨sg, N, h, h01⟩ := I
  dsimp only at h h01
  unfold wpX_pair wpY_pair
  dsimp only
  by_cases hr : ∃ p r, p < 3 ∧ r < 4 ∧ v1 = nI p ∧ v2 = nI r
  · obtain ⟨p, r, hp, hr, rfl, rfl⟩ := hr
    by_cases hs : ∃ s, s < 4 ∧ v3 = nI s
    · obtain ⟨s, hs, rfl⟩ := hs
      by_cases ht : ∃ t, t < 4 ∧ v4 = nI t
      · obtain ⟨t, ht, rfl⟩ := ht
        rw [ym_e4 p r, ym_e4 p s, ym_e4 p t]
        refine xm_isReg1 hp hr (br_f (by decide) (xm_isReg1 hp hs (br_f (by decide) (xm_isReg1 hp ht (br_f (by decide) (xm_room (n := 1) hp (by omega) (ph_hg h) (fun fc' K' V' U' F' I' hx hc => ?_) (fun fc' K' V' U' F' I' hx hc => ?_)))))))
        · dsimp only
          refine br_f (by decide) (xm_take hp (by omega) (fun a a1 a2 a3 => ?_))
          dsimp only
          refine xm_head (xm_reg (xm_reg (xm_reg ⟨vp_in_nI (by omega) (by decide), vp_in_nI (by omega) (by decide), ?_⟩)))
          rw [nI_clamp (n := 7 * p + s) (by omega), nI_clamp (n := 7 * p + t) (by omega), nI_1 (21 + 2 * a)]
          refine xm_set (by omega) ?_
          dsimp only
          refine ⟨vp_in_nI (by omega) (by decide), vp_in_nI (by omega) (by decide), ?_⟩
          rw [pk_un (show 7 * p + t ≠ 21 + 2 * a by omega), pk_un (show 7 * p + t ≠ 21 + 2 * a by omega)]
          refine xm_set (by omega) ?_
          dsimp only
          refine xm_set (by omega) ?_
          dsimp only
          refine ym_bad1 hp hr (br_t rfl (ym_bad1 hp hs (br_t rfl (ym_bad1 hp ht (br_t rfl (ym_room (n := 1) hp (by omega) (ph_hm h) h01 (fun y hy hth k2 => ph_gy h hy hth k2) (fun u' R' h01' hy hc' => ?_) (fun u' R' h01' hy hc' => ?_)))))))
          · have h' := ph_room2 h hp hx hy
            dsimp only
            refine br_f (by decide) (ym_unused hp (by omega) (fun b b1 b2 b3 => ⟨vp_in_nI (by omega) (by decide), ?_⟩))
            rw [nI_clamp (n := b) (by omega), xm_n1, xm_e21, ym_e22]
            refine nm_e (ym_take (by omega) (by omega) ?_)
            dsimp only
            refine ym_take (by omega) (by omega) ?_
            dsimp only
            rw [pk_un (show 4 * p + t ≠ 21 + 2 * b by omega), pk_un (show 4 * p + t ≠ 21 + 2 * b by omega)]
            refine ym_set (by omega) ⟨rfl, ?_⟩
            obtain ⟨sg', es, h2⟩ := ph_pair h' (sx := a) (sy := b) (by omega) (p := p) (by omega) a3 (by omega) (by omega) b3 (x0 := 1) (by decide) (ph_reg h' hp hs) (ph_reg h' hp ht)
            have tm : ph_tm sg' (upd U' a 1) p 2 (nI a) 2 (nI (sg' a)) := ph_tm_pair (by omega) (by omega) (by rw [pk_us]; decide)
            rw [es] at tm
            exact ph_mkR (ph_setr h2 hp hr tm) (ph_01_u h01' (Or.inr rfl))
          · have h' := ph_room2 h hp hx hy
            rw [← ph_cnt h' hp] at hc'
            exact absurd hc hc'
        · dsimp only
          refine br_t (by decide) ?_
          refine ym_bad1 hp hr (br_t rfl (ym_bad1 hp hs (br_t rfl (ym_bad1 hp ht (br_t rfl (ym_room (n := 1) hp (by omega) (ph_hm h) h01 (fun y hy hth k2 => ph_gy h hy hth k2) (fun u' R' h01' hy hc' => ?_) (fun u' R' h01' hy hc' => ?_)))))))
          · have h' := ph_room2 h hp hx hy
            rw [← ph_cnt h' hp] at hc'
            exact absurd hc' hc
          · exact br_t rfl ⟨rfl, ph_mkR (ph_room2 h hp hx hy) h01'⟩
      · have ht' : ¬ ∃ p' r', p' < 3 ∧ r' < 4 ∧ nI p = nI p' ∧ v4 = nI r' := fun ⟨_, r', _, hr', _, e⟩ => ht ⟨r', hr', e⟩
        exact xm_isReg1 hp hr (br_f (by decide) (xm_isReg1 hp hs (br_f (by decide) (xm_isReg0 ht' (br_t rfl (ym_bad1 hp hr (br_t rfl (ym_bad1 hp hs (br_t rfl (ym_bad0 ht' (br_f (by decide) ⟨rfl, ph_mkR h h01⟩)))))))))))
    · have hs' : ¬ ∃ p' r', p' < 3 ∧ r' < 4 ∧ nI p = nI p' ∧ v3 = nI r' := fun ⟨_, r', _, hr', _, e⟩ => hs ⟨r', hr', e⟩
      exact xm_isReg1 hp hr (br_f (by decide) (xm_isReg0 hs' (br_t rfl (ym_bad1 hp hr (br_t rfl (ym_bad0 hs' (br_f (by decide) ⟨rfl, ph_mkR h h01⟩)))))))
  · exact xm_isReg0 hr (br_t rfl (ym_bad0 hr (br_f (by decide) ⟨rfl, ph_mkR h h01⟩)))
theorem i_vc_send {k : Nat} {u : SX} {v : SY} (I : i_Rel k u v) (hk : k + 5 ≤ 2560) (v1 : Int32) (v2 : Int32) (v3 : Int32) : wpX_send (fun r u' => wpY_send (fun r' v' => r' = r ∧ i_Rel (k + 5) u' v') v v1 v2 v3) u v1 v2 v3 := by
  obtain ⟨fc, K, V, M, U, F, J, C⟩ := u
  obtain ⟨ky, c, m, uy, R, D⟩ := v
  obtain ⟨sg, N, h, h01⟩ := I
  dsimp only at h h01
  unfold wpX_send wpY_send
  dsimp only
  by_cases hr : ∃ p r, p < 3 ∧ r < 4 ∧ v1 = nI p ∧ v2 = nI r
  · obtain ⟨p, r, hp, hr, rfl, rfl⟩ := hr
    by_cases ht : ∃ to, to < 3 ∧ v3 = nI to
    · obtain ⟨to, hto, rfl⟩ := ht
      obtain ⟨n3, eM, em⟩ := h.1 to hto
      have ip : vp_in (nI to) 3 := vp_in_nI hto (by decide)
      have et : (nI to).toNatClampNeg = to := nI_clamp (by omega)
      rw [et, ym_e4 p r]
      refine xm_isReg1 hp hr (br_f (by decide) (xm_isProc1 hto (br_f (by decide) ⟨ip, ?_⟩)))
      rw [eM, em]
      refine pk_lt (N to) 3 (fun hn => ?_) (fun hn => ?_)
      · have gyf : ∀ {K V U u' : Nat → Int32}, ph_rel sg N K V U M ky c u' m → ky (4 * p + r) = 2 → ∃ t, t < 60 ∧ c (4 * p + r) = nI t ∧ ¬ u' t = 0 := by
          intro K V U u' g k2
          exact ph_gy g (by omega) (Or.inl (by omega)) k2
        refine xm_reg (xm_find (cn := 1) (by omega) (ph_hg h) (fun I1 F1 n1 hl1 hf1 => ?_))
        dsimp only
        refine xm_room (n := n1) hto (ph_li_60 hl1) (ph_hg h) (fun fc' K' V' U' F' I' hx hc => ?_) (fun fc' K' V' U' F' I' hx hc => ?_)
        · obtain ⟨ux, hX⟩ := ph_xm_rel h hto hx
          dsimp only
          refine br_f (by decide) (xm_find (cn := 1) (by omega) (ph_hg hX) (fun I2 F2 n2 hl2 hf2 => ?_))
          dsimp only
          have n21 : n2 ≤ n1 := by
            rw [hl2.1, hl1.1]
            exact ph_xm_le (by omega) hx hf1 hf2
          have inp := ph_inp hX (p := p) hf2 (by
            intro s hs ⟨j, hj, ho⟩
            obtain ⟨s', hs', o, uu, e⟩ := ph_gx hX (q := 7 * p + r + j) (by omega) ho.1
            have : s' = s := ph_inj (by omega) (by omega) (e.symm.trans ho.2)
            subst this
            have j0 : j = 0 := by omega
            subst j0
            exact ⟨o.trans (ph_own_pl hp (i := r) (by omega)), uu⟩)
          refine xm_copy hto hl2 (by omega) (ph_hg hX) (fun s hs z => (inp s hs z).2) (fun C' U1 K1 V1 aX cX => ?_)
          dsimp only
          refine ⟨ip, ?_⟩
          rw [eM]
          refine xm_mailc ?_
          have kq := cX.2 (7 * p + r) (by omega) (fun s a b _ _ _ _ _ => by omega)
          refine xm_stc (by omega) (by omega) (fun z => ?_) ?_
          · obtain ⟨s, hs, e⟩ := ph_hg hX (7 * p + r) (by omega) (kq.1.symm.trans z)
            exact ⟨s, hs, kq.2.trans e⟩
          dsimp only
          refine ⟨ip, ip, ?_⟩
          rw [eM, nI_1 (N to)]
          refine nm_e ?_
          rw [ph_cv_cg kq, kq.1]
          refine ym_bad1 hp hr (br_t rfl (ym_badp1 hto (br_t rfl ⟨ip, br_f (fun z => ?_) (nm_e (ym_mark (by omega) (gyf h) (fun t b h1 h2 h3 h4 => ph_gys h h1 h2 h3 h4) (fun R1 hR1 => ?_)))⟩)))
          · have := ph_inj (b := 3) (by omega) (by omega) z
            omega
          dsimp only
          refine ym_found ?_
          obtain ⟨c1, c2⟩ := ph_one h hp hr hf1 hR1
          have cnt : ph_ct R1 0 60 = n1 := by
            rw [hl1.1]
            exact (ph_fnd h c1 c2).symm
          rw [cnt]
          refine ym_room hto (ph_li_60 hl1) (ph_hm h) h01 (fun y hy hth k2 => ph_gy h hy hth k2) (fun u' R' h01' hy hc' => ?_) (fun u' R' h01' hy hc' => ?_)
          · have h' := ph_room2 h hto hx hy
            dsimp only
            refine br_f (by decide) (ym_mark (by omega) (gyf h') (fun t b h1 h2 h3 h4 => ph_gys h' h1 h2 h3 h4) (fun R2 hR2 => ?_))
            dsimp only
            obtain ⟨d1, d2⟩ := ph_one h' hp hr hf2 hR2
            have ru : ∀ t, t < 60 → ¬ R2 t = 0 → ¬ u' t = 0 := by
              intro t h60 z
              obtain ⟨s, hs, us, _, e⟩ := d2 t h60 z
              rw [← e]
              exact (h'.2.1 s hs us).2.2
            have c2n : ph_ct R2 0 60 = n1 := (ph_lf_ct hR1 hR2).trans cnt
            refine ym_send hto (by omega) ⟨hn, em⟩ h01' (by omega) ru (fun t b h1 h2 h3 h4 => ?_) (fun k2 => ?_) (fun D' u1 k1 c1 h01u aY cY => ⟨rfl, ?_⟩)
            · obtain ⟨t', g1, g2, _⟩ := ph_gys h' h1 h2 (ru t h1 h3) h4
              exact ⟨t', g1, g2⟩
            · obtain ⟨t', g1, g2, _⟩ := gyf h' k2
              exact ⟨t', g1, g2⟩
            · obtain ⟨sg', N', h2⟩ := ph_send2 h' hp hr hto hn hf2 hR2 aX aY cX cY
              exact ph_mkR h2 h01u
          · have h' := ph_room2 h hto hx hy
            rw [← ph_cnt h' hto] at hc'
            exact absurd hc hc'
        · dsimp only
          refine br_t (by decide) ?_
          refine ym_bad1 hp hr (br_t rfl (ym_badp1 hto (br_t rfl ⟨ip, br_f (fun z => ?_) (nm_e (ym_mark (by omega) (gyf h) (fun t b h1 h2 h3 h4 => ph_gys h h1 h2 h3 h4) (fun R1 hR1 => ?_)))⟩)))
          · have := ph_inj (b := 3) (by omega) (by omega) z
            omega
          dsimp only
          refine ym_found ?_
          obtain ⟨c1, c2⟩ := ph_one h hp hr hf1 hR1
          have cnt : ph_ct R1 0 60 = n1 := by
            rw [hl1.1]
            exact (ph_fnd h c1 c2).symm
          rw [cnt]
          refine ym_room hto (ph_li_60 hl1) (ph_hm h) h01 (fun y hy hth k2 => ph_gy h hy hth k2) (fun u' R' h01' hy hc' => ?_) (fun u' R' h01' hy hc' => ?_)
          · have h' := ph_room2 h hto hx hy
            rw [← ph_cnt h' hto] at hc'
            exact absurd hc' hc
          · exact br_t rfl ⟨rfl, ph_mkR (ph_room2 h hto hx hy) h01'⟩
      · have e3 : N to = 3 := by omega
        rw [e3]
        exact ym_bad1 hp hr (br_t rfl (ym_badp1 hto (br_t rfl ⟨ip, br_t rfl ⟨rfl, ph_mkR h h01⟩⟩)))
    · have ht' : ∀ p, p < 3 → v3 ≠ nI p := fun p h3 e => ht ⟨p, h3, e⟩
      exact xm_isReg1 hp hr (br_f (by decide) (xm_isProc0 ht' (br_t rfl (ym_bad1 hp hr (br_t rfl (ym_badp0 ht' (br_f (by decide) ⟨rfl, ph_mkR h h01⟩)))))))
  · exact xm_isReg0 hr (br_t rfl (ym_bad0 hr (br_f (by decide) ⟨rfl, ph_mkR h h01⟩)))
