/-! the component against the pure picture -/
theorem xk_isT {post : Int32 → Prop} {n : Nat} (hn : n ≤ 28) {m : Int32} {K A B : Nat → Int32} {j : Nat} (hj : j < n) (h : post 1) : wpX_isTerm post (nI n, m, K, A, B) (nI j) := by
  unfold wpX_isTerm
  dsimp only
  exact br_f (nI_pos (by omega)) (br_f (nI_ge hj (by omega)) h)
theorem xk_isF {post : Int32 → Prop} {n : Nat} {m : Int32} {K A B : Nat → Int32} {p : Int32} (hp : p < 0 ∨ nI n ≤ p) (h : post 0) : wpX_isTerm post (nI n, m, K, A, B) p := by
  unfold wpX_isTerm
  dsimp only
  rcases hp with e | e
  · exact br_t e h
  · exact br_c (fun _ => h) (fun _ => br_t e h)
theorem xk_has {post : Int32 → Prop} {m : Int32} {l : Nat} (hl : l < 32) (h : post (if bt m l = true then 1 else 0)) : wpX_has post m (nI l) := by
  unfold wpX_has
  rw [zk_has0 hl m]
  cases e : bt m l
  · rw [e] at h
    exact br_t rfl h
  · rw [e] at h
    exact br_f (by decide) h
theorem xk_step {post : Int32 → Prop} {T m : Int32} {K A B : Nat → Int32} {s : Int32} {t a b : Nat} (ht : t < 28) (ha : a < 28) (hb : b < 28) (eA : A t = nI a) (eB : B t = nI b) (hK : K t = 1 ∨ K t = 2) (H : ∀ s', bt s' = zk_st (K t) a b t (bt s) → post s') : wpX_withStepAt post (T, m, K, A, B) s (nI t) := by
  unfold wpX_withStepAt
  dsimp only
  rw [nI_clamp (by omega), eA, eB]
  have hi : vp_in (nI t) 28 := vp_in_nI ht (by omega)
  refine ⟨hi, fun x3 e3 => ⟨hi, fun x4 e4 x5 e5 => ?_⟩⟩
  subst e3 e4 e5
  rw [zk_both (by omega) (by omega)]
  refine br_c (fun h => H _ ?_) (fun h => xk_has (by omega) ?_)
  · funext x
    rw [zk_on (by omega)]
    simp only [zk_st, h.1, h.2]
    rcases hK with e | e <;> rw [e] <;> by_cases ex : x = t <;> by_cases ea : x = a <;> by_cases eb : x = b <;> simp_all
  · cases et : bt s t
    · refine br_t rfl (H _ ?_)
      funext x
      simp only [zk_st, et]
      have : (bt s a && bt s b) = false := by
        cases e1 : bt s a <;> cases e2 : bt s b <;> simp_all
      simp [this]
    · refine br_f (by decide) ⟨hi, br_c (fun k1 => H _ ?_) (fun k1 => ?_)⟩
      · funext x
        rw [b_or, b_or, zk_one (by omega), zk_one (by omega)]
        simp only [zk_st, et, k1]
        have : (bt s a && bt s b) = false := by
          cases e1 : bt s a <;> cases e2 : bt s b <;> simp_all
        simp [this]
      · have k2 : K t = 2 := hK.resolve_left k1
        rw [zk_has0 (by omega)]
        refine br_c (fun h0 => H _ ?_) (fun h0 => H _ ?_)
        · funext x
          simp [zk_st, k2, h0]
        · funext x
          have h1 := zk_nbf h0
          have h2 : bt s b = false := zk_nbt (fun z => h ⟨h1, z⟩)
          rw [zk_on (by omega)]
          simp [zk_st, k2, h1, h2, et]
theorem xk_in {n : Nat} {K A B : Nat → Int32} (ok : zk_ok n K A B) {m : Int32} {post : Int32 → Prop} {J4 : Int32 → Int32 → Prop} {x3 x4 : Int32} : ∀ (d t : Nat) (s : Int32), 8 ≤ t → t + d = n → ∀ fuel, d < fuel → (∀ s', bt s' = zk_q K A B d t (bt s) → ((s' = x4 → post s') ∧ (¬ s' = x4 → ∀ y, y = x3 + 1 → J4 s' y))) → wX_knownFrom_17 post J4 x3 x4 (nI n) m K A B fuel s (nI t) := by
  have hn := ok.1
  intro d
  induction d with
  | zero =>
    intro t s h8 ht fuel hf H
    obtain ⟨f, rfl⟩ : ∃ f, fuel = f + 1 := ⟨fuel - 1, by omega⟩
    rw [wX_knownFrom_17]
    exact br_t (nI_le (by omega) (by omega)) (H s rfl)
  | succ d ih =>
    intro t s h8 ht fuel hf H
    obtain ⟨f, rfl⟩ : ∃ f, fuel = f + 1 := ⟨fuel - 1, by omega⟩
    rw [wX_knownFrom_17]
    obtain ⟨hK, a, b, ha, hb, eA, eB⟩ := ok.2.2 t h8 (by omega)
    refine br_f (nI_ge (by omega) (by omega)) (xk_step (by omega) (Nat.lt_of_lt_of_le ha hn.2) (Nat.lt_of_lt_of_le hb hn.2) eA eB hK (fun s' hs' => nm_r (nI_1 t) (ih (t + 1) s' (by omega) (by omega) f (by omega) (fun s'' hs'' => H s'' ?_))))
    rw [hs'', hs']
    show _ = zk_q K A B d (t + 1) (zk_s K A B t (bt s))
    rw [zk_s, eA, eB, nI_clamp (by omega), nI_clamp (by omega)]
theorem xk_out {n : Nat} {K A B : Nat → Int32} (ok : zk_ok n K A B) {m : Int32} {post : Int32 → Prop} : ∀ (d r : Nat) (s : Int32), r + d = 29 → ∀ fuel, d < fuel → (∀ s', bt s' = zk_it (zk_p n K A B) d (bt s) → post s') → wX_knownFrom_4 post (nI n) m K A B fuel s (nI r) := by
  have hn := ok.1
  intro d
  induction d with
  | zero =>
    intro r s hr fuel hf H
    obtain ⟨f, rfl⟩ : ∃ f, fuel = f + 1 := ⟨fuel - 1, by omega⟩
    rw [wX_knownFrom_4]
    exact br_t (nI_lt (a := 28) (by omega) (by omega)) (H s rfl)
  | succ d ih =>
    intro r s hr fuel hf H
    obtain ⟨f, rfl⟩ : ∃ f, fuel = f + 1 := ⟨fuel - 1, by omega⟩
    rw [wX_knownFrom_4]
    refine br_f (nI_nlt (b := r) (a := 28) (by omega) (by omega)) ⟨n - 8 + 1, xk_in ok (n - 8) 8 s (by omega) (by omega) _ (by omega) (fun s' hs' => br_c (fun e => H s' ?_) (fun _ => nm_r (nI_1 r) (ih (r + 1) s' (by omega) f (by omega) (fun s'' hs'' => H s'' ?_))))⟩
    · subst e
      exact (zk_it_fix (f := zk_p n K A B) hs'.symm (d + 1)).symm
    · rw [hs'', hs']
      rfl
theorem xk_from {n : Nat} {K A B : Nat → Int32} (ok : zk_ok n K A B) {m : Int32} {post : Int32 → Prop} {s : Int32} (H : ∀ s', bt s' = zk_cl n K A B (bt s) → post s') : wpX_knownFrom post (nI n, m, K, A, B) s := by
  unfold wpX_knownFrom
  dsimp only
  exact ⟨30, xk_out ok 29 0 s (by omega) 30 (by omega) H⟩
theorem xk_size4 {m : Int32} {post : Int32 → Prop} (H : post (nI (zk_cn (bt m) 28))) : ∀ (d i : Nat), i + d = 28 → ∀ fuel, d < fuel → wX_sizeOf_4 post m fuel (nI (zk_cn (bt m) i)) (nI i) := by
  intro d
  induction d with
  | zero =>
    intro i hi fuel hf
    obtain ⟨f, rfl⟩ : ∃ f, fuel = f + 1 := ⟨fuel - 1, by omega⟩
    rw [wX_sizeOf_4]
    have e : i = 28 := by omega
    subst e
    exact br_t (nI_le (a := 28) (by omega) (by omega)) H
  | succ d ih =>
    intro i hi fuel hf
    obtain ⟨f, rfl⟩ : ∃ f, fuel = f + 1 := ⟨fuel - 1, by omega⟩
    rw [wX_sizeOf_4]
    refine br_f (nI_ge (b := 28) (by omega) (by omega)) (xk_has (by omega) ?_)
    have h := ih (i + 1) (by omega) f (by omega)
    cases e : bt m i
    · have ec : zk_cn (bt m) (i + 1) = zk_cn (bt m) i := by simp [zk_cn, e]
      rw [ec] at h
      exact br_t rfl (nm_r (nI_1 i) h)
    · have ec : zk_cn (bt m) (i + 1) = zk_cn (bt m) i + 1 := by simp [zk_cn, e]
      rw [ec] at h
      exact br_f (by decide) (nm_r (nI_1 _) (nm_r (nI_1 i) h))
theorem xk_size {m : Int32} {post : Int32 → Prop} (H : post (nI (zk_cn (bt m) 28))) : wpX_sizeOf post m :=
  ⟨29, xk_size4 H 28 0 (by omega) 29 (by omega)⟩
theorem xk_count {n : Nat} {K A B : Nat → Int32} (ok : zk_ok n K A B) {m : Int32} {post : Int32 → Prop} (H : post (nI (zk_cn (zk_cl n K A B (bt m)) 28))) : wpX_countKnown post (nI n, m, K, A, B) := by
  unfold wpX_countKnown
  dsimp only
  refine xk_from ok (fun s' hs' => xk_size ?_)
  rw [hs']
  exact H
theorem zk_nb (c : Prop) (h : Decidable c) : narrow .boolean (.int (if c then 1 else 0)) = .int (if c then 1 else 0) := by
  by_cases e : c
  · rw [if_pos e]; rfl
  · rw [if_neg e]; rfl
theorem xk_give {n : Nat} {K A B : Nat → Int32} (ok : zk_ok n K A B) {m : Int32} {post : Int32 → Prop} {s : Int32} {g : Nat} (hg : g < 32) (H : post (if zk_cl n K A B (fun i => bt m i || bt s i) g = true then 1 else 0)) : wpX_wouldGive post (nI n, m, K, A, B) s (nI g) := by
  unfold wpX_wouldGive
  dsimp only
  have e0 : bt (m ||| s) = fun i => bt m i || bt s i := funext (b_or m s)
  refine xk_from ok (fun s' hs' => xk_has hg ⟨zk_nb _ _, ?_⟩)
  rw [hs', e0]
  exact H
/-! leak, atomsFor, spare, findOrMake: the loops -/
def zk_lk (G : Nat → Bool) : Nat → Nat → Nat
  | 0, t => t
  | d + 1, t => if G t = true then t else zk_lk G d (t + 1)
def zk_G (n : Nat) (K A B : Nat → Int32) (m : Int32) (g t : Nat) : Bool := zk_cl n K A B (fun i => bt m i || decide (i = t)) g
theorem xk_leak {n : Nat} {K A B : Nat → Int32} (ok : zk_ok n K A B) {m : Int32} {post : Int32 → Prop} {g : Nat} (hg : g < 28) : ∀ (d t : Nat), t + d = g → ∀ fuel, d < fuel → post (nI (zk_lk (zk_G n K A B m g) d t)) → wX_leak_24 post (nI g) (nI n) m K A B fuel (nI t) := by
  intro d
  induction d with
  | zero =>
    intro t ht fuel hf H
    obtain ⟨f, rfl⟩ : ∃ f, fuel = f + 1 := ⟨fuel - 1, by omega⟩
    rw [wX_leak_24]
    have e : t = g := by omega
    subst e
    exact br_t (nI_le (by omega) (by omega)) H
  | succ d ih =>
    intro t ht fuel hf H
    obtain ⟨f, rfl⟩ : ∃ f, fuel = f + 1 := ⟨fuel - 1, by omega⟩
    rw [wX_leak_24]
    refine br_f (nI_ge (by omega) (by omega)) (xk_give ok (by omega) ?_)
    have e0 : (fun i => bt m i || bt ((1 : Int32) <<< (nI t &&& 31)) i) = fun i => bt m i || decide (i = t) := funext (fun i => by rw [zk_one (by omega)])
    have hv : zk_cl n K A B (fun i => bt m i || decide (i = t)) g = zk_G n K A B m g t := rfl
    rw [e0, hv]
    simp only [zk_lk] at H
    by_cases e : zk_G n K A B m g t = true
    · rw [if_pos e] at H ⊢
      exact br_f (by decide) H
    · rw [if_neg e] at H ⊢
      exact br_t rfl (nm_r (nI_1 t) (ih (t + 1) (by omega) f (by omega) H))
theorem zk_sml {s i : Nat} (hs : s < 256) (hi : 8 ≤ i) : bt (nI s) i = false := by
  show (BitVec.ofNat 32 s).getLsbD i = false
  rw [BitVec.getLsbD_ofNat, Nat.testBit_lt_two_pow (Nat.lt_of_lt_of_le hs (show 256 ≤ 2 ^ i from Nat.pow_le_pow_right (n := 2) (by omega) hi)), Bool.and_false]
def zk_af (G : Nat → Bool) : Nat → Nat → Nat → Nat
  | 0, _, l => l
  | d + 1, s, l => if l ≤ zk_cn (bt (nI s)) 8 then zk_af G d (s + 1) l else if G s = true then zk_af G d (s + 1) (zk_cn (bt (nI s)) 8) else zk_af G d (s + 1) l
def zk_F (n : Nat) (K A B : Nat → Int32) (m : Int32) (g s : Nat) : Bool := zk_cl n K A B (fun i => bt m i || bt (nI s) i) g
theorem xk_atoms {n : Nat} {K A B : Nat → Int32} (ok : zk_ok n K A B) {m : Int32} {post : Int32 → Prop} {g : Nat} (hg : g < 28) : ∀ (d s l : Nat), s + d = 256 → l ≤ 8 → ∀ fuel, d < fuel → post (nI (zk_af (zk_F n K A B m g) d s l)) → wX_atomsFor_15 post (nI g) (nI n) m K A B fuel (nI l) (nI s) := by
  intro d
  induction d with
  | zero =>
    intro s l hs hl fuel hf H
    obtain ⟨f, rfl⟩ : ∃ f, fuel = f + 1 := ⟨fuel - 1, by omega⟩
    rw [wX_atomsFor_15]
    exact br_t (nI_le (a := 256) (by omega) (by omega)) H
  | succ d ih =>
    intro s l hs hl fuel hf H
    obtain ⟨f, rfl⟩ : ∃ f, fuel = f + 1 := ⟨fuel - 1, by omega⟩
    rw [wX_atomsFor_15]
    refine br_f (nI_ge (b := 256) (by omega) (by omega)) (xk_size ?_)
    have e0 : zk_cn (bt (nI s)) 28 = zk_cn (bt (nI s)) 8 := zk_cn_z (fun x hx => zk_sml (by omega) hx) 28 (by omega)
    have hb := zk_cn_b (bt (nI s)) 8
    rw [e0]
    simp only [zk_af] at H
    generalize zk_cn (bt (nI s)) 8 = z at hb H ⊢
    by_cases c : l ≤ z
    · rw [if_pos c] at H
      exact br_t (nI_le c (by omega)) (nm_r (nI_1 s) (ih (s + 1) l (by omega) hl f (by omega) H))
    · rw [if_neg c] at H
      refine br_f (nI_ge (by omega) (by omega)) (xk_give ok (by omega) ?_)
      have hv : zk_cl n K A B (fun i => bt m i || bt (nI s) i) g = zk_F n K A B m g s := rfl
      rw [hv]
      by_cases e : zk_F n K A B m g s = true
      · rw [if_pos e] at H ⊢
        exact br_f (by decide) (nm_r (nI_1 s) (ih (s + 1) z (by omega) hb f (by omega) H))
      · rw [if_neg e] at H ⊢
        exact br_t rfl (nm_r (nI_1 s) (ih (s + 1) l (by omega) hl f (by omega) H))
def zk_P (n : Nat) (K A B : Nat → Int32) (m : Int32) (t : Nat) : Bool := bt m t && zk_cl n K A B (fun i => bt m i && !decide (i = t)) t
theorem xk_spare {n : Nat} {K A B : Nat → Int32} (ok : zk_ok n K A B) {m ks : Int32} (hks : bt ks = zk_cl n K A B (bt m)) {post : Int32 → Prop} (H : post (nI (zk_cn (zk_P n K A B m) n))) : ∀ (d t : Nat), t + d = n → ∀ fuel, d < fuel → wX_spare_13 post ks (nI n) m K A B fuel (nI (zk_cn (zk_P n K A B m) t)) (nI t) := by
  have hn := ok.1
  intro d
  induction d with
  | zero =>
    intro t ht fuel hf
    obtain ⟨f, rfl⟩ : ∃ f, fuel = f + 1 := ⟨fuel - 1, by omega⟩
    rw [wX_spare_13]
    have e : t = n := by omega
    subst e
    exact br_t (nI_le (by omega) (by omega)) H
  | succ d ih =>
    intro t ht fuel hf
    obtain ⟨f, rfl⟩ : ∃ f, fuel = f + 1 := ⟨fuel - 1, by omega⟩
    rw [wX_spare_13]
    refine br_f (nI_ge (by omega) (by omega)) (xk_has (by omega) ?_)
    have h := ih (t + 1) (by omega) f (by omega)
    cases e : bt m t
    · have ec : zk_cn (zk_P n K A B m) (t + 1) = zk_cn (zk_P n K A B m) t := by simp [zk_cn, zk_P, e]
      rw [ec] at h
      exact br_t rfl (nm_r (nI_1 t) h)
    · refine br_f (by decide) (xk_from ok (fun s' hs' => ?_))
      have e0 : bt (m &&& (((1 : Int32) <<< (nI t &&& 31)) ^^^ (-1))) = fun i => bt m i && !decide (i = t) := funext (zk_off (by omega) m)
      rw [e0] at hs'
      have sp := zk_spare ok (H := bt m) e
      refine br_c (fun c => ?_) (fun c => ?_)
      · have hp : zk_cl n K A B (fun i => bt m i && !decide (i = t)) t = true := sp.mp (by rw [← hs', c, hks])
        have ec : zk_cn (zk_P n K A B m) (t + 1) = zk_cn (zk_P n K A B m) t + 1 := by simp [zk_cn, zk_P, e, hp]
        rw [ec] at h
        exact nm_r (nI_1 _) (nm_r (nI_1 t) h)
      · have hp : ¬ zk_cl n K A B (fun i => bt m i && !decide (i = t)) t = true := fun z => c (zk_ainj (by rw [hs', hks]; exact sp.mpr z))
        have ec : zk_cn (zk_P n K A B m) (t + 1) = zk_cn (zk_P n K A B m) t := by simp [zk_cn, zk_P, e, hp]
        rw [ec] at h
        exact nm_r (nI_1 t) h
def zk_fd (K A B : Nat → Int32) (k a b : Int32) : Nat → Nat → Nat
  | 0, t => t
  | d + 1, t => if K t = k ∧ A t = a ∧ B t = b then t else zk_fd K A B k a b d (t + 1)
theorem zk_fd_le (K A B : Nat → Int32) (k a b : Int32) : ∀ d t, zk_fd K A B k a b d t ≤ t + d := by
  intro d
  induction d with
  | zero => intro t; exact Nat.le_refl t
  | succ d ih =>
    intro t
    simp only [zk_fd]
    have := ih (t + 1)
    split <;> omega
theorem xk_find {n : Nat} {K A B : Nat → Int32} (hn : n ≤ 28) {m k a b : Int32} {post : Int32 → SX → Prop} : ∀ (d t : Nat), t + d = n → ∀ fuel, d < fuel → (zk_fd K A B k a b d t < n → post (nI (zk_fd K A B k a b d t)) (nI n, m, K, A, B)) → (zk_fd K A B k a b d t = n → n < 28 → post (nI n) (nI (n + 1), m, upd K n k, upd A n a, upd B n b)) → (zk_fd K A B k a b d t = n → n = 28 → post (-1) (nI n, m, K, A, B)) → wX_findOrMake_22 post k a b (nI n) m K A B fuel (nI t) := by
  intro d
  induction d with
  | zero =>
    intro t ht fuel hf H1 H2 H3
    obtain ⟨f, rfl⟩ : ∃ f, fuel = f + 1 := ⟨fuel - 1, by omega⟩
    rw [wX_findOrMake_22]
    dsimp only
    have e : t = n := by omega
    subst e
    rw [nI_clamp (by omega)]
    refine br_t (nI_le (by omega) (by omega)) (pk_lt t 28 (fun c => ?_) (fun c => H3 rfl (by omega)))
    have hi : vp_in (nI t) 28 := vp_in_nI c (by omega)
    exact ⟨hi, nm_e ⟨hi, nm_e ⟨hi, nm_e (nm_r (nI_1 t) (H2 rfl c))⟩⟩⟩
  | succ d ih =>
    intro t ht fuel hf H1 H2 H3
    obtain ⟨f, rfl⟩ : ∃ f, fuel = f + 1 := ⟨fuel - 1, by omega⟩
    rw [wX_findOrMake_22]
    dsimp only
    rw [nI_clamp (n := t) (by omega)]
    have hi : vp_in (nI t) 28 := vp_in_nI (by omega) (by omega)
    simp only [zk_fd] at H1 H2 H3
    by_cases c : K t = k ∧ A t = a ∧ B t = b
    · rw [if_pos c] at H1
      exact br_f (nI_ge (by omega) (by omega)) ⟨hi, br_t c.1 ⟨hi, br_t c.2.1 ⟨hi, br_t c.2.2 (H1 (by omega))⟩⟩⟩
    · rw [if_neg c] at H1 H2 H3
      have h := ih (t + 1) (by omega) f (by omega) H1 H2 H3
      exact br_f (nI_ge (by omega) (by omega)) ⟨hi, br_c (fun c1 => ⟨hi, br_c (fun c2 => ⟨hi, br_c (fun c3 => absurd ⟨c1, c2, c3⟩ c) (fun _ => nm_r (nI_1 t) h)⟩) (fun _ => nm_r (nI_1 t) h)⟩) (fun _ => nm_r (nI_1 t) h)⟩
