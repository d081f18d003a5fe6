/-! X's methods of its own, each with a general post -/
theorem xm_n1 : vp_nar .boolean 1 = 1 := by rfl
theorem xm_n0 : vp_nar .boolean 0 = 0 := by rfl
theorem xm_isProc1 {post : Int32 → Prop} {p : Nat} (hp : p < 3) (h : post 1) : wpX_isProcess post (nI p) :=
  br_f (nI_pos (by omega)) (br_f (nI_ge (b := 3) hp (by decide)) h)
theorem xm_isProc0 {post : Int32 → Prop} {x : Int32} (hx : ∀ p, p < 3 → x ≠ nI p) (h : post 0) : wpX_isProcess post x := by
  rcases pk_ix x (n := 3) (by decide) with h1 | h1 | ⟨j, hj, e⟩
  · exact br_t h1 h
  · by_cases h2 : x < 0
    · exact br_t h2 h
    · exact br_f h2 (br_t h1 h)
  · exact absurd e (hx j hj)
theorem xm_isReg1 {post : Int32 → Prop} {p r : Nat} (hp : p < 3) (hr : r < 4) (h : post 1) : wpX_isRegister post (nI p) (nI r) := by
  unfold wpX_isRegister
  exact xm_isProc1 hp (br_f (by decide) (br_f (nI_pos (by omega)) (br_f (nI_ge (b := 4) hr (by decide)) h)))
theorem xm_isReg0 {post : Int32 → Prop} {x y : Int32} (h0 : ¬ ∃ p r, p < 3 ∧ r < 4 ∧ x = nI p ∧ y = nI r) (h : post 0) : wpX_isRegister post x y := by
  unfold wpX_isRegister
  by_cases hx : ∃ p, p < 3 ∧ x = nI p
  · obtain ⟨p, hp, rfl⟩ := hx
    refine xm_isProc1 hp (br_f (by decide) ?_)
    rcases pk_ix y (n := 4) (by decide) with h1 | h1 | ⟨j, hj, e⟩
    · exact br_t h1 h
    · by_cases h2 : y < 0
      · exact br_t h2 h
      · exact br_f h2 (br_t h1 h)
    · exact absurd ⟨p, j, hp, hj, rfl, e⟩ h0
  · exact xm_isProc0 (fun p hp e => hx ⟨p, hp, e⟩) (br_t rfl h)
theorem xm_e7 (p r : Nat) : nI p * 7 + nI r = nI (7 * p + r) := by
  rw [show (7 : Int32) = nI 7 from rfl, pk_mul, nI_add, Nat.mul_comm p 7]
theorem xm_e20 (p r : Nat) : nI p * 20 + nI r = nI (20 * p + r) := by
  rw [show (20 : Int32) = nI 20 from rfl, pk_mul, nI_add, Nat.mul_comm p 20]
theorem xm_e20' (p : Nat) : nI p * 20 = nI (20 * p) := by
  rw [show (20 : Int32) = nI 20 from rfl, pk_mul, Nat.mul_comm p 20]
theorem xm_e21 (s : Nat) : 21 + 2 * nI s = nI (21 + 2 * s) := by
  rw [show (21 : Int32) = nI 21 from rfl, show (2 : Int32) = nI 2 from rfl, pk_mul, nI_add]
theorem xm_reg {post : Int32 → Prop} {p r : Nat} (h : post (nI (7 * p + r))) : wpX_registerCell post (nI p) (nI r) := by
  unfold wpX_registerCell
  rw [xm_e7]
  exact h
theorem xm_reg0 {post : Int32 → Prop} {p : Nat} (h : post (nI (7 * p))) : wpX_registerCell post (nI p) 0 := xm_reg (r := 0) h
theorem xm_mailc {post : Int32 → Prop} {p j : Nat} (h : post (nI (7 * p + 4 + j))) : wpX_mailCell post (nI p) (nI j) := by
  unfold wpX_mailCell
  rw [show nI p * 7 + 4 = nI (7 * p + 4) from xm_e7 p 4, nI_add]
  exact h
theorem xm_head {post : Int32 → Prop} {s : Nat} (h : post (nI (21 + 2 * s))) : wpX_headCell post (nI s) := by
  unfold wpX_headCell
  rw [xm_e21]
  exact h
section
variable {fc : Int32} {K V M U F I C : Nat → Int32}
theorem xm_set {post : SX → Prop} {q : Nat} {a b : Int32} (hq : q < 141) (h : post (fc, upd K q a, upd V q b, M, U, F, I, C)) : wpX_setCell post (fc, K, V, M, U, F, I, C) (nI q) a b := by
  have e : (nI q).toNatClampNeg = q := nI_clamp (by omega)
  unfold wpX_setCell
  dsimp only
  refine ⟨vp_in_nI hq (by decide), fun y1 e1 => ⟨vp_in_nI hq (by decide), fun y2 e2 => ?_⟩⟩
  rw [e] at e1 e2
  rw [e1, e2]
  exact h
theorem xm_kept {post : Int32 → Prop} {x : Int32} (h1 : (∃ q, q < 141 ∧ K q = 3 ∧ V q = x) → post 1) (h0 : (¬ ∃ q, q < 141 ∧ K q = 3 ∧ V q = x) → post 0) : wpX_isKept post (fc, K, V, M, U, F, I, C) x := by
  have H : ∀ n i, i ≤ 141 → 141 - i < n → (∀ q, q < i → ¬ (K q = 3 ∧ V q = x)) → wX_isKept_2 post x fc K V M U F I C n (nI i) := by
    intro n
    induction n with
    | zero => intro i _ h; omega
    | succ n ih =>
      intro i hi hn hq
      refine pk_le 141 i (fun hle => h0 (fun ⟨q, hq', z⟩ => hq q (by omega) z)) (fun hlt => ⟨vp_in_nI hlt (by decide), ?_⟩)
      rw [nI_clamp (by omega)]
      by_cases k3 : K i = 3
      · refine br_t k3 ⟨vp_in_nI hlt (by decide), ?_⟩
        by_cases v : V i = x
        · exact br_t v (h1 ⟨i, hlt, k3, v⟩)
        · exact br_f v (nm_r (nI_1 i) (ih (i + 1) (by omega) (by omega) (lt_s hq (fun z => v z.2))))
      · exact br_f k3 (nm_r (nI_1 i) (ih (i + 1) (by omega) (by omega) (lt_s hq (fun z => k3 z.1))))
  exact ⟨142, H 142 0 (by omega) (by omega) lt_0⟩
theorem xm_free {post : Int32 → Prop} (h : ∀ b, b ≤ 6 → (∀ j, j < b → ∃ q, q < 141 ∧ K q = 3 ∧ V q = nI j) → (b < 6 → ¬ ∃ q, q < 141 ∧ K q = 3 ∧ V q = nI b) → post (nI b)) : wpX_leastFreeBlob post (fc, K, V, M, U, F, I, C) := by
  have H : ∀ n i, i ≤ 6 → 6 - i < n → (∀ j, j < i → ∃ q, q < 141 ∧ K q = 3 ∧ V q = nI j) → wX_leastFreeBlob_2 post fc K V M U F I C n (nI i) := by
    intro n
    induction n with
    | zero => intro i _ h; omega
    | succ n ih =>
      intro i hi hn hq
      refine pk_le 6 i (fun hle => ?_) (fun hlt => ?_)
      · have e : i = 6 := by omega
        subst e
        exact h 6 (by omega) hq (fun z => absurd z (by omega))
      · refine xm_kept (fun z => ?_) (fun z => ?_)
        · exact br_f (by decide) (nm_r (nI_1 i) (ih (i + 1) (by omega) (by omega) (lt_s hq z)))
        · exact br_t rfl (h i hi hq (fun _ => z))
  exact ⟨7, H 7 0 (by omega) (by omega) lt_0⟩
theorem xm_count {post : Int32 → Prop} {p : Nat} (hp : p < 3) (h : post (nI (ph_ct U (20 * p) 20))) : wpX_countPairs post (fc, K, V, M, U, F, I, C) (nI p) := by
  have H : ∀ n i, i ≤ 20 → 20 - i < n → wX_countPairs_4 post (nI p) fc K V M U F I C n (nI (ph_ct U (20 * p) i)) (nI i) := by
    intro n
    induction n with
    | zero => intro i _ h; omega
    | succ n ih =>
      intro i hi hn
      refine pk_le 20 i (fun hle => ?_) (fun hlt => ?_)
      · have e : i = 20 := by omega
        subst e
        exact h
      · rw [xm_e20]
        refine ⟨vp_in_nI (by omega) (by decide), ?_⟩
        rw [nI_clamp (by omega)]
        by_cases z : U (20 * p + i) = 0
        · refine br_t z (nm_r (nI_1 i) ?_)
          have := ih (i + 1) (by omega) (by omega)
          rw [ph_ct_s0 z] at this
          exact this
        · refine br_f z (nm_r (nI_1 _) (nm_r (nI_1 i) ?_))
          have := ih (i + 1) (by omega) (by omega)
          rw [ph_ct_s1 z] at this
          exact this
  exact ⟨21, H 21 0 (by omega) (by omega)⟩
theorem xm_take {post : Int32 → SX → Prop} {p : Nat} (hp : p < 3) (hex : ph_ct U (20 * p) 20 < 20) (h : ∀ s, 20 * p ≤ s → s < 20 * p + 20 → U s = 0 → post (nI s) (fc, K, V, M, upd U s 1, F, I, C)) : wpX_takeSlot post (fc, K, V, M, U, F, I, C) (nI p) := by
  have H : ∀ n i, i ≤ 19 → 19 - i < n → (∀ j, j < i → ¬ U (20 * p + j) = 0) → wX_takeSlot_12 post (nI (20 * p + 19)) fc K V M U F I C n (nI (20 * p + i)) := by
    intro n
    induction n with
    | zero => intro i _ h; omega
    | succ n ih =>
      intro i hi hn hu
      refine pk_le (20 * p + 19) (20 * p + i) (fun hle => ?_) (fun hlt => ⟨vp_in_nI (by omega) (by decide), ?_⟩)
      · obtain ⟨s, h1, h2, h3⟩ := ph_ct_ex hex
        have e : s = 20 * p + i := by
          by_cases z : s - 20 * p < i
          · have := hu (s - 20 * p) z
            rw [show 20 * p + (s - 20 * p) = s by omega] at this
            exact absurd h3 this
          · omega
        refine ⟨vp_in_nI (by omega) (by decide), ?_⟩
        rw [nI_clamp (by omega), xm_n1]
        exact nm_e (h _ (by omega) (by omega) (e ▸ h3))
      · rw [nI_clamp (by omega), xm_n1]
        by_cases z : U (20 * p + i) = 0
        · exact br_t z ⟨vp_in_nI (by omega) (by decide), nm_e (h _ (by omega) (by omega) z)⟩
        · exact br_f z (nm_r (nI_1 _) (ih (i + 1) (by omega) (by omega) (lt_s hu z)))
  unfold wpX_takeSlot
  dsimp only
  refine nm_r (xm_e20' p) (nm_r (e' := nI (20 * p + 19)) ?_ ⟨20, H 20 0 (by omega) (by omega) lt_0⟩)
  rw [show (20 : Int32) = nI 20 from rfl, nI_add, nI_pred]
theorem xm_look {post : SX → Prop} {q n : Nat} (hq : q < 141) (hl : ph_li I F n) (hg : K q = 2 → ∃ s, s < 60 ∧ V q = nI s) (h : ∀ I' F' n', ph_fs K V q I F n I' F' n' → post (nI n', K, V, M, U, F', I', C)) : wpX_findInCell post (nI n, K, V, M, U, F, I, C) (nI q) := by
  have n60 := ph_li_60 hl
  have iq : vp_in (nI q) 141 := vp_in_nI hq (by decide)
  unfold wpX_findInCell
  dsimp only
  refine ⟨iq, ?_⟩
  rw [nI_clamp (n := q) (by omega)]
  by_cases k2 : K q = 2
  · obtain ⟨s, hs, hv⟩ := hg k2
    rw [hv]
    have is : vp_in (nI s) 60 := vp_in_nI hs (by decide)
    refine br_t k2 ⟨iq, is, ?_⟩
    rw [nI_clamp (n := s) (by omega)]
    by_cases z : I s = 0
    · have nl := ph_li_lt hl hs z
      refine br_t z ⟨iq, is, ?_⟩
      rw [xm_n1, nI_clamp (n := n) (by omega)]
      exact nm_e ⟨iq, vp_in_nI nl (by decide), nm_e (nm_r (nI_1 n) (h _ _ _ (ph_fs_s hl hs k2 hv z (by decide))))⟩
    · exact br_f z (h _ _ _ (ph_fs_o hl hs hv z))
  · exact br_f k2 (h _ _ _ (ph_fs_n hl k2))
theorem xm_find {post : SX → Prop} {a cn : Nat} (ha : a + cn ≤ 141) (hg : ∀ q, q < 141 → K q = 2 → ∃ s, s < 60 ∧ V q = nI s) (h : ∀ I' F' n', ph_li I' F' n' → ph_lf K V (fun s => ∃ j, j < cn ∧ ph_ho K V (a + j) s) (fun s => ¬ I' s = 0) → post (nI n', K, V, M, U, F', I', C)) : wpX_findFromCells post (fc, K, V, M, U, F, I, C) (nI a) (nI cn) := by
  have H3 : ∀ x e n I F, e ≤ 60 → 60 - e < x → ph_b2 K V (fun s => ∃ j, j < cn ∧ ph_ho K V (a + j) s) I F n e → wX_findFromCells_48 post x (nI e) (nI n) K V M U F I C := by
    intro x
    induction x with
    | zero => intro e n I F _ h; omega
    | succ x ih =>
      intro e n I F he hx hb
      have n60 := ph_li_60 hb.1
      refine pk_le 60 e (fun hle => ?_) (fun hlt => pk_le n e (fun hle => ?_) (fun hlt' => ⟨vp_in_nI hlt (by decide), ?_⟩))
      · exact h I F n hb.1 (ph_b2_e hb (by omega))
      · exact h I F n hb.1 (ph_b2_e hb hle)
      · obtain ⟨s, hs, hF, _⟩ := hb.1.2.1 e hlt'
        rw [nI_clamp (by omega), hF]
        refine xm_head ?_
        refine xm_look (by omega) hb.1 (hg _ (by omega)) (fun I1 F1 n1 f1 => ?_)
        dsimp only
        rw [nI_1 (21 + 2 * s)]
        refine xm_look (by omega) f1.1 (hg _ (by omega)) (fun I2 F2 n2 f2 => ?_)
        exact nm_r (nI_1 e) (ih (e + 1) n2 I2 F2 (by omega) (by omega) (ph_b2_s hb hlt' hs hF f1 f2))
  have H2 : ∀ x i n I F, i ≤ cn → cn - i < x → ph_b1 K V a I F n i → wX_findFromCells_28 post (nI a) (nI cn) x (nI i) (nI n) K V M U F I C := by
    intro x
    induction x with
    | zero => intro i n I F _ h; omega
    | succ x ih =>
      intro i n I F hi hx hb
      refine pk_le cn i (fun hle => ?_) (fun hlt => ?_)
      · have e : i = cn := by omega
        subst e
        exact ⟨61, H3 61 0 n I F (by omega) (by omega) (ph_b2_0 hb)⟩
      · rw [nI_add]
        refine xm_look (by omega) hb.1 (hg _ (by omega)) (fun I1 F1 n1 f1 => ?_)
        exact nm_r (nI_1 i) (ih (i + 1) n1 I1 F1 (by omega) (by omega) (ph_b1_s hb f1))
  have H1 : ∀ x i I, i ≤ 60 → 60 - i < x → (∀ s, s < i → I s = 0) → wX_findFromCells_2 post (nI a) (nI cn) fc x (nI i) K V M U F I C := by
    intro x
    induction x with
    | zero => intro i I _ h; omega
    | succ x ih =>
      intro i I hi hx hI
      refine pk_le 60 i (fun hle => ?_) (fun hlt => ⟨vp_in_nI hlt (by decide), ?_⟩)
      · exact ⟨cn + 1, H2 (cn + 1) 0 0 I F (by omega) (by omega) (ph_b1_0 (fun s hs => hI s (by omega)))⟩
      · rw [nI_clamp (by omega), xm_n0]
        refine nm_e (nm_r (nI_1 i) (ih (i + 1) (upd I i 0) (by omega) (by omega) (fun s hs => ?_)))
        by_cases e : s = i
        · rw [e, pk_us]
        · rw [pk_un e]
          exact hI s (by omega)
  exact ⟨61, H1 61 0 I (by omega) (by omega) lt_0⟩
theorem xm_rempair {post : SX → Prop} {s : Nat} (hs : s < 60) (h : post (fc, upd (upd K (21 + 2 * s) 0) (21 + 2 * s + 1) 0, upd (upd V (21 + 2 * s) 0) (21 + 2 * s + 1) 0, M, upd U s 0, F, I, C)) : wpX_removePair post (fc, K, V, M, U, F, I, C) (nI s) := by
  unfold wpX_removePair
  dsimp only
  refine xm_head ⟨vp_in_nI hs (by decide), ?_⟩
  rw [nI_clamp (by omega), xm_n0, nI_1 (21 + 2 * s)]
  refine nm_e ?_
  refine xm_set (by omega) ?_
  dsimp only
  exact xm_set (by omega) h
theorem xm_clean {post : SX → Prop} {p : Nat} (hp : p < 3) (hg : ∀ q, q < 141 → K q = 2 → ∃ s, s < 60 ∧ V q = nI s) (h : ∀ fc' K' V' U' F' I', ph_xc p K V U K' V' U' → post (fc', K', V', M, U', F', I', C)) : wpX_removeUnreached post (fc, K, V, M, U, F, I, C) (nI p) := by
  unfold wpX_removeUnreached
  dsimp only
  refine xm_reg0 ?_
  refine xm_find (cn := 7) (by omega) hg (fun I1 F1 n1 hl1 hf => ?_)
  dsimp only
  have H : ∀ x i K' V' U', i ≤ 20 → 20 - i < x → ph_rm p I1 K V U i K' V' U' → wX_removeUnreached_15 post (nI p) x (nI i) (nI n1) K' V' M U' F1 I1 C := by
    intro x
    induction x with
    | zero => intro i _ _ _ _ h; omega
    | succ x ih =>
      intro i K' V' U' hi hx hr
      refine pk_le 20 i (fun hle => ?_) (fun hlt => nm_r (xm_e20 p i) ⟨vp_in_nI (by omega) (by decide), ?_⟩)
      · have e : i = 20 := by omega
        subst e
        exact h _ _ _ _ _ _ (ph_rm_e hr hf)
      · rw [nI_clamp (by omega)]
        by_cases z : I1 (20 * p + i) = 0
        · refine br_t z (xm_rempair (by omega) ?_)
          exact nm_r (nI_1 i) (ih (i + 1) _ _ _ (by omega) (by omega) (ph_rm_s hr z rfl))
        · exact br_f z (nm_r (nI_1 i) (ih (i + 1) _ _ _ (by omega) (by omega) (ph_rm_n hr z)))
  exact ⟨21, H 21 0 K V U (by omega) (by omega) ph_rm_0⟩
end
