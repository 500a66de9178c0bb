/-! the reference's methods -/
def zk_R (n : Nat) (m : Int32) (K A B H : Nat → Int32) : Prop := zk_ok n K A B ∧ zk_kb H = bt m ∧ ∀ i, n ≤ i → bt m i = false
theorem zk_m1n {i : Nat} (hi : i < 28) : ¬ nI i = -1 := by
  intro e
  have h := nI_pos (n := i) (by omega)
  rw [e] at h
  exact h (by decide)
theorem zk_sh0 {i : Nat} (hi : i < 28) : ¬ (((0 : Int32) >>> (nI i &&& 31)) &&& 1) = 1 := by
  rw [zk_bit 0 (by omega), b_0]
  decide
theorem zk_w0 {n : Nat} {m : Int32} {K A B H : Nat → Int32} (R : zk_R n m K A B H) : zk_wk (-1) 0 (-1) H = bt m := by
  rw [← R.2.1]
  funext i
  by_cases c : i < 28
  · simp [zk_wk, zk_kb, c, zk_m1n c, zk_sh0 c]
  · simp [zk_wk, zk_kb, c]
theorem zk_we {n : Nat} {m : Int32} {K A B H : Nat → Int32} (R : zk_R n m K A B H) {e : Nat} (he : e < 28) : zk_wk (nI e) 0 (-1) H = fun i => bt m i || decide (i = e) := by
  rw [← R.2.1]
  funext i
  by_cases c : i < 28
  · have q : nI i = nI e ↔ i = e := nI_eq (by omega) (by omega)
    simp [zk_wk, zk_kb, c, zk_m1n c, zk_sh0 c, q]
  · have q : ¬ i = e := by omega
    simp [zk_wk, zk_kb, c, q]
theorem zk_wa {n : Nat} {m : Int32} {K A B H : Nat → Int32} (R : zk_R n m K A B H) {s : Nat} (hs : s < 256) : zk_wk (-1) (nI s) (-1) H = fun i => bt m i || bt (nI s) i := by
  rw [← R.2.1]
  funext i
  by_cases c : i < 28
  · by_cases c8 : i < 8
    · simp only [zk_wk, zk_kb]
      rw [zk_bit (nI s) (by omega)]
      cases eb : bt (nI s) i
      · simp [c, zk_m1n c]
      · simp [c, c8]
    · have := zk_sml hs (i := i) (by omega)
      simp [zk_wk, zk_kb, c, c8, zk_m1n c, this]
  · have := zk_sml hs (i := i) (by omega)
    simp [zk_wk, zk_kb, c, this]
theorem zk_ww {n : Nat} {m : Int32} {K A B H : Nat → Int32} (R : zk_R n m K A B H) {t : Nat} (ht : t < 28) : zk_wk (-1) 0 (nI t) H = fun i => bt m i && !decide (i = t) := by
  rw [← R.2.1]
  funext i
  by_cases c : i < 28
  · have q : nI i = nI t ↔ i = t := nI_eq (by omega) (by omega)
    simp [zk_wk, zk_kb, c, zk_m1n c, zk_sh0 c, q]
  · simp [zk_wk, zk_kb, c]
theorem yk_count4 {n : Nat} (hn : n ≤ 28) {ch : Int32} {K A B H C : Nat → Int32} {post : Int32 → Prop} (h : post (nI (zk_cn (zk_kb C) n))) : ∀ (d i : Nat), i + d = n → ∀ fuel, d < fuel → wY_count_4 post (nI n) ch K A B H C fuel (nI (zk_cn (zk_kb C) i)) (nI i) := by
  intro d
  induction d with
  | zero =>
    intro i hi fuel hf
    obtain ⟨f, rfl⟩ : ∃ f, fuel = f + 1 := ⟨fuel - 1, by omega⟩
    rw [wY_count_4]
    have e : i = n := by omega
    subst e
    exact br_t (nI_le (by omega) (by omega)) h
  | succ d ih =>
    intro i hi fuel hf
    obtain ⟨f, rfl⟩ : ∃ f, fuel = f + 1 := ⟨fuel - 1, by omega⟩
    rw [wY_count_4]
    dsimp only
    rw [nI_clamp (by omega), zk_kb_t (show i < 28 by omega)]
    have g := ih (i + 1) (by omega) f (by omega)
    refine br_f (nI_ge (by omega) (by omega)) ⟨vp_in_nI (by omega) (by omega), br_c (fun e => ?_) (fun e => ?_)⟩
    · have ec : zk_cn (zk_kb C) (i + 1) = zk_cn (zk_kb C) i := by simp [zk_cn, e]
      rw [ec] at g
      exact nm_r (nI_1 i) g
    · have e' := zk_nbf e
      have ec : zk_cn (zk_kb C) (i + 1) = zk_cn (zk_kb C) i + 1 := by simp [zk_cn, e']
      rw [ec] at g
      exact nm_r (nI_1 _) (nm_r (nI_1 i) g)
theorem yk_count {n : Nat} (hn : n ≤ 28) {ch : Int32} {K A B H C : Nat → Int32} {post : Int32 → Prop} (h : post (nI (zk_cn (zk_kb C) n))) : wpY_count post (nI n, ch, K, A, B, H, C) := by
  unfold wpY_count
  dsimp only
  exact ⟨n + 1, yk_count4 hn h n 0 (by omega) (n + 1) (by omega)⟩
theorem yk_known {n : Nat} {m : Int32} {K A B H : Nat → Int32} (R : zk_R n m K A B H) {ch : Int32} {C : Nat → Int32} {post : Int32 → SY → Prop} (h : ∀ (ch' : Int32) (C' : Nat → Int32), post (nI (zk_cn (zk_cl n K A B (bt m)) n)) (nI n, ch', K, A, B, H, C')) : wpY_known post (nI n, ch, K, A, B, H, C) := by
  unfold wpY_known
  dsimp only
  refine yk_work R.1 (fun ch' C' hc => yk_count R.1.1.2 ?_)
  rw [hc, zk_w0 R]
  exact h ch' C'
theorem yk_get {n : Nat} {C : Nat → Int32} {g : Nat} (hg : g < 28) {S : Nat → Bool} (hc : zk_kb C = S) {P Q : Prop} (h1 : S g = true → Q) (h0 : S g = false → P) : vp_in (nI g) 28 ∧ ((C (nI g).toNatClampNeg = 0 → P) ∧ (¬ C (nI g).toNatClampNeg = 0 → Q)) := by
  rw [nI_clamp (by omega), zk_kb_t hg, hc]
  exact ⟨vp_in_nI hg (by omega), br_c h0 (fun e => h1 (zk_nbf e))⟩
theorem yk_knows {n : Nat} {m : Int32} {K A B H : Nat → Int32} (R : zk_R n m K A B H) {ch : Int32} {C : Nat → Int32} {post : Int32 → SY → Prop} {g : Nat} (hg : g < n) (h : ∀ (ch' : Int32) (C' : Nat → Int32), post (if zk_cl n K A B (bt m) g = true then 1 else 0) (nI n, ch', K, A, B, H, C')) : wpY_knows post (nI n, ch, K, A, B, H, C) (nI g) := by
  have hn := R.1.1
  unfold wpY_knows
  dsimp only
  refine yk_bF hn.2 hg (br_t rfl (yk_work R.1 (fun ch' C' hc => ?_)))
  rw [zk_w0 R] at hc
  have q := h ch' C'
  refine yk_get (n := n) (by omega) hc (fun e => ?_) (fun e => ?_)
  · rw [if_pos e] at q; exact q
  · rw [if_neg (by rw [e]; decide)] at q; exact q
theorem yk_would {n : Nat} {m : Int32} {K A B H : Nat → Int32} (R : zk_R n m K A B H) {ch : Int32} {C : Nat → Int32} {post : Int32 → SY → Prop} {g t : Nat} (hg : g < n) (ht : t < n) (h : ∀ (ch' : Int32) (C' : Nat → Int32), post (if zk_G n K A B m g t = true then 1 else 0) (nI n, ch', K, A, B, H, C')) : wpY_would post (nI n, ch, K, A, B, H, C) (nI t) (nI g) := by
  have hn := R.1.1
  unfold wpY_would
  dsimp only
  refine yk_bF hn.2 ht (br_t rfl (yk_bF hn.2 hg (br_t rfl (yk_work R.1 (fun ch' C' hc => ?_)))))
  rw [zk_we R (show t < 28 by omega)] at hc
  have q := h ch' C'
  refine yk_get (n := n) (by omega) hc (fun e => ?_) (fun e => ?_)
  · rw [if_pos (show zk_G n K A B m g t = true from e)] at q; exact q
  · have e' : zk_G n K A B m g t = false := e
    rw [if_neg (by rw [e']; decide)] at q; exact q
theorem yk_leak {n : Nat} {m : Int32} {K A B H : Nat → Int32} (R : zk_R n m K A B H) {post : Int32 → SY → Prop} {g : Nat} (hg : g < n) : ∀ (d t : Nat) (ch : Int32) (C : Nat → Int32), t + d = g → ∀ fuel, d < fuel → (∀ (ch' : Int32) (C' : Nat → Int32), post (nI (zk_lk (zk_G n K A B m g) d t)) (nI n, ch', K, A, B, H, C')) → wY_leak_24 post (nI g) fuel (nI t) (nI n) ch K A B H C := by
  have hn := R.1.1
  intro d
  induction d with
  | zero =>
    intro t ch C ht fuel hf h
    obtain ⟨f, rfl⟩ : ∃ f, fuel = f + 1 := ⟨fuel - 1, by omega⟩
    rw [wY_leak_24]
    have e : t = g := by omega
    subst e
    have hG : zk_G n K A B m t t = true := zk_cl_ext n K A B _ t (by simp)
    refine br_f (nI_ge (by omega) (by omega)) (yk_would R hg hg (fun ch' C' => ?_))
    rw [if_pos hG]
    exact br_t rfl (h ch' C')
  | succ d ih =>
    intro t ch C ht fuel hf h
    obtain ⟨f, rfl⟩ : ∃ f, fuel = f + 1 := ⟨fuel - 1, by omega⟩
    rw [wY_leak_24]
    simp only [zk_lk] at h
    refine br_f (nI_ge (by omega) (by omega)) (yk_would R hg (by omega) (fun ch' C' => ?_))
    by_cases e : zk_G n K A B m g t = true
    · rw [if_pos e] at h ⊢
      exact br_t rfl (h ch' C')
    · rw [if_neg e] at h ⊢
      exact br_f (by decide) (nm_r (nI_1 t) (ih (t + 1) ch' C' (by omega) f (by omega) h))
theorem yk_ones4 {m : Int32} {post : Int32 → Prop} (h : post (nI (zk_cn (bt m) 8))) : ∀ (d i : Nat), i + d = 8 → ∀ fuel, d < fuel → wY_ones_4 post m fuel (nI (zk_cn (bt m) i)) (nI i) := by
  intro d
  induction d with
  | zero =>
    intro i hi fuel hf
    obtain ⟨f, rfl⟩ : ∃ f, fuel = f + 1 := ⟨fuel - 1, by omega⟩
    rw [wY_ones_4]
    have e : i = 8 := by omega
    subst e
    exact br_t (nI_le (a := 8) (by omega) (by omega)) h
  | succ d ih =>
    intro i hi fuel hf
    obtain ⟨f, rfl⟩ : ∃ f, fuel = f + 1 := ⟨fuel - 1, by omega⟩
    rw [wY_ones_4]
    dsimp only
    have g := ih (i + 1) (by omega) f (by omega)
    rw [zk_bit m (by omega)]
    refine br_f (nI_ge (b := 8) (by omega) (by omega)) (nm_r (e' := nI (zk_cn (bt m) (i + 1))) ?_ (nm_r (nI_1 i) g))
    cases e : bt m i
    · simp [zk_cn, e]
    · simp [zk_cn, e, nI_1]
theorem yk_ones {m : Int32} {post : Int32 → Prop} (h : post (nI (zk_cn (bt m) 8))) : wpY_ones post m :=
  ⟨9, yk_ones4 h 8 0 (by omega) 9 (by omega)⟩
theorem yk_atoms {n : Nat} {m : Int32} {K A B H : Nat → Int32} (R : zk_R n m K A B H) {post : Int32 → SY → Prop} {g : Nat} (hg : g < n) : ∀ (d s l : Nat) (ch : Int32) (C : Nat → Int32), s + d = 256 → l ≤ 8 → ∀ fuel, d < fuel → (∀ (ch' : Int32) (C' : Nat → Int32), post (nI (zk_af (zk_F n K A B m g) d s l)) (nI n, ch', K, A, B, H, C')) → wY_atomsFor_15 post (nI g) fuel (nI l) (nI s) (nI n) ch K A B H C := by
  have hn := R.1.1
  intro d
  induction d with
  | zero =>
    intro s l ch C hs hl fuel hf h
    obtain ⟨f, rfl⟩ : ∃ f, fuel = f + 1 := ⟨fuel - 1, by omega⟩
    rw [wY_atomsFor_15]
    exact br_t (nI_le (a := 256) (by omega) (by omega)) (h ch C)
  | succ d ih =>
    intro s l ch C hs hl fuel hf h
    obtain ⟨f, rfl⟩ : ∃ f, fuel = f + 1 := ⟨fuel - 1, by omega⟩
    rw [wY_atomsFor_15]
    refine br_f (nI_ge (b := 256) (by omega) (by omega)) (yk_ones ?_)
    have hb := zk_cn_b (bt (nI s)) 8
    simp only [zk_af] at h
    generalize zk_cn (bt (nI s)) 8 = z at hb h ⊢
    by_cases c : l ≤ z
    · simp only [if_pos c] at h
      exact br_t (nI_le c (by omega)) (nm_r (nI_1 s) (ih (s + 1) l ch C (by omega) hl f (by omega) h))
    · simp only [if_neg c] at h
      refine br_f (nI_ge (by omega) (by omega)) (yk_work R.1 (fun ch' C' hc => ?_))
      rw [zk_wa R (show s < 256 by omega)] at hc
      refine yk_get (n := n) (by omega) hc (fun e => ?_) (fun e => ?_)
      · have e' : zk_F n K A B m g s = true := e
        simp only [if_pos e'] at h
        exact nm_r (nI_1 s) (ih (s + 1) z ch' C' (by omega) hb f (by omega) h)
      · have e' : ¬ zk_F n K A B m g s = true := by
          have e'' : zk_F n K A B m g s = false := e
          rw [e'']; decide
        simp only [if_neg e'] at h
        exact nm_r (nI_1 s) (ih (s + 1) l ch' C' (by omega) hl f (by omega) h)
theorem yk_spare {n : Nat} {m : Int32} {K A B H : Nat → Int32} (R : zk_R n m K A B H) {post : Int32 → SY → Prop} (h : ∀ (ch' : Int32) (C' : Nat → Int32), post (nI (zk_cn (zk_P n K A B m) n)) (nI n, ch', K, A, B, H, C')) : ∀ (d t : Nat) (ch : Int32) (C : Nat → Int32), t + d = n → ∀ fuel, d < fuel → wY_spare_4 post fuel (nI (zk_cn (zk_P n K A B m) t)) (nI t) (nI n) ch K A B H C := by
  have hn := R.1.1
  intro d
  induction d with
  | zero =>
    intro t ch C ht fuel hf
    obtain ⟨f, rfl⟩ : ∃ f, fuel = f + 1 := ⟨fuel - 1, by omega⟩
    rw [wY_spare_4]
    have e : t = n := by omega
    subst e
    exact br_t (nI_le (by omega) (by omega)) (h ch C)
  | succ d ih =>
    intro t ch C ht fuel hf
    obtain ⟨f, rfl⟩ : ∃ f, fuel = f + 1 := ⟨fuel - 1, by omega⟩
    rw [wY_spare_4]
    refine br_f (nI_ge (by omega) (by omega)) (yk_get (n := n) (by omega) R.2.1 (fun e => ?_) (fun e => ?_))
    · refine yk_work R.1 (fun ch' C' hc => ?_)
      rw [zk_ww R (show t < 28 by omega)] at hc
      have g := ih (t + 1) ch' C' (by omega) f (by omega)
      refine yk_get (n := n) (by omega) hc (fun e' => ?_) (fun e' => ?_)
      · have ec : zk_cn (zk_P n K A B m) (t + 1) = zk_cn (zk_P n K A B m) t + 1 := by simp [zk_cn, zk_P, e, e']
        rw [ec] at g
        exact nm_r (nI_1 _) (nm_r (nI_1 t) g)
      · have ec : zk_cn (zk_P n K A B m) (t + 1) = zk_cn (zk_P n K A B m) t := by simp [zk_cn, zk_P, e, e']
        rw [ec] at g
        exact nm_r (nI_1 t) g
    · have g := ih (t + 1) ch C (by omega) f (by omega)
      have ec : zk_cn (zk_P n K A B m) (t + 1) = zk_cn (zk_P n K A B m) t := by simp [zk_cn, zk_P, e]
      rw [ec] at g
      exact nm_r (nI_1 t) g
theorem yk_find {n : Nat} {K A B : Nat → Int32} (hn : n ≤ 28) {ch k a b : Int32} {H C : Nat → Int32} {post : Int32 → SY → Prop} : ∀ (d t : Nat), t + d = n → ∀ fuel, d < fuel → (zk_fd K A B k a b d t < n → post (nI (zk_fd K A B k a b d t)) (nI n, ch, K, A, B, H, C)) → (zk_fd K A B k a b d t = n → n < 28 → post (nI n) (nI (n + 1), ch, upd K n k, upd A n a, upd B n b, H, C)) → (zk_fd K A B k a b d t = n → n = 28 → post (-1) (nI n, ch, K, A, B, H, C)) → wY_make_22 post k a b (nI n) ch K A B H C fuel (nI t) := by
  intro d
  induction d with
  | zero =>
    intro t ht fuel hf H1 H2 H3
    obtain ⟨f, rfl⟩ : ∃ f, fuel = f + 1 := ⟨fuel - 1, by omega⟩
    rw [wY_make_22]
    dsimp only
    have e : t = n := by omega
    subst e
    rw [nI_clamp (by omega)]
    refine br_t (nI_le (by omega) (by omega)) (pk_eq t 28 (fun c => H3 rfl c) (fun c => ?_))
    have hi : vp_in (nI t) 28 := vp_in_nI (by omega) (by omega)
    have q := H2 rfl (by omega)
    refine ⟨hi, nm_e ⟨hi, nm_e ⟨hi, nm_e (nm_r (nI_1 t) ?_)⟩⟩⟩
    rw [nI_pred]
    exact q
  | succ d ih =>
    intro t ht fuel hf H1 H2 H3
    obtain ⟨f, rfl⟩ : ∃ f, fuel = f + 1 := ⟨fuel - 1, by omega⟩
    rw [wY_make_22]
    dsimp only
    rw [nI_clamp (n := t) (by omega)]
    have hi : vp_in (nI t) 28 := vp_in_nI (by omega) (by omega)
    simp only [zk_fd] at H1 H2 H3
    by_cases c : K t = k ∧ A t = a ∧ B t = b
    · rw [if_pos c] at H1
      exact br_f (nI_ge (by omega) (by omega)) ⟨hi, br_t c.1 ⟨hi, br_t c.2.1 ⟨hi, br_t c.2.2 (H1 (by omega))⟩⟩⟩
    · rw [if_neg c] at H1 H2 H3
      have h := ih (t + 1) (by omega) f (by omega) H1 H2 H3
      exact br_f (nI_ge (by omega) (by omega)) ⟨hi, br_c (fun c1 => ⟨hi, br_c (fun c2 => ⟨hi, br_c (fun c3 => absurd ⟨c1, c2, c3⟩ c) (fun _ => nm_r (nI_1 t) h)⟩) (fun _ => nm_r (nI_1 t) h)⟩) (fun _ => nm_r (nI_1 t) h)⟩
