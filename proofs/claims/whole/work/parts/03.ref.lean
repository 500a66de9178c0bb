/-! the reference against the pure picture -/
def zk_kb (C : Nat → Int32) : Nat → Bool := fun i => decide (i < 28) && !decide (C i = 0)
theorem zk_v1 : vp_nar .boolean 1 = 1 := rfl
theorem zk_v0 : vp_nar .boolean 0 = 0 := rfl
theorem zk_kb_t {C : Nat → Int32} {a : Nat} (ha : a < 28) : C a = 0 ↔ zk_kb C a = false := by
  simp [zk_kb, ha]
theorem zk_kb_on {C : Nat → Int32} {a : Nat} (ha : a < 28) : zk_kb (upd C a (vp_nar .boolean 1)) = fun x => zk_kb C x || decide (x = a) := by
  funext x
  rw [zk_v1]
  by_cases e : x = a
  · subst e
    simp [zk_kb, pk_us, ha]
  · simp [zk_kb, pk_un e, e]
theorem zk_kb_off {C : Nat → Int32} {a : Nat} : zk_kb (upd C a (vp_nar .boolean 0)) = fun x => zk_kb C x && !decide (x = a) := by
  funext x
  rw [zk_v0]
  by_cases e : x = a
  · subst e
    simp [zk_kb, pk_us]
  · simp [zk_kb, pk_un e, e]
theorem yk_bF {post : Int32 → Prop} {n : Nat} (hn : n ≤ 28) {ch : Int32} {K A B H C : Nat → Int32} {j : Nat} (hj : j < n) (h : post 0) : wpY_bad post (nI n, ch, K, A, B, H, C) (nI j) := by
  unfold wpY_bad
  dsimp only
  exact br_f (nI_pos (by omega)) (br_t (nI_lt hj (by omega)) h)
theorem yk_bT {post : Int32 → Prop} {n : Nat} {ch : Int32} {K A B H C : Nat → Int32} {p : Int32} (hp : p < 0 ∨ nI n ≤ p) (h : post 1) : wpY_bad post (nI n, ch, K, A, B, H, C) p := by
  unfold wpY_bad
  dsimp only
  rcases hp with e | e
  · exact br_t e h
  · exact br_c (fun _ => h) (fun _ => br_f (Int32.not_lt.mpr e) h)
theorem yk_learn {post : SY → Prop} {T ch : Int32} {K A B H C : Nat → Int32} {a : Nat} (ha : a < 28) (h : ∀ (ch' : Int32) (C' : Nat → Int32), zk_kb C' = (fun x => zk_kb C x || decide (x = a)) → (ch' = 0 → ch = 0 ∧ zk_kb C' = zk_kb C) → post (T, ch', K, A, B, H, C')) : wpY_learn post (T, ch, K, A, B, H, C) (nI a) := by
  unfold wpY_learn
  dsimp only
  rw [nI_clamp (by omega)]
  have hi : vp_in (nI a) 28 := vp_in_nI ha (by omega)
  refine ⟨hi, br_c (fun e => ⟨hi, nm_e (h 1 _ (zk_kb_on ha) (fun z => absurd z (by decide)))⟩) (fun e => ⟨hi, nm_e (h ch _ (zk_kb_on ha) (fun z => ⟨z, ?_⟩))⟩)⟩
  rw [zk_kb_on ha]
  rw [zk_kb_t ha] at e
  have e' := zk_nbf e
  funext x
  by_cases c : x = a
  · subst c; simp [e']
  · simp [c]
theorem yk_76 {post : SY → Prop} {T ch : Int32} {K A B H C : Nat → Int32} {t a b : Nat} (ht : t < 28) (ha : a < 28) (hb : b < 28) (hK : ¬ K t ≤ 0) (h : ∀ (ch' : Int32) (C' : Nat → Int32), zk_kb C' = (fun x => zk_kb C x || (zk_kb C a && zk_kb C b && decide (x = t))) → (ch' = 0 → ch = 0 ∧ zk_kb C' = zk_kb C) → post (T, ch', K, A, B, H, C')) : wY_apply_76 post (nI t) (nI a) (nI b) T ch K A B H C := by
  unfold wY_apply_76
  rw [nI_clamp (by omega), nI_clamp (by omega), nI_clamp (by omega), zk_kb_t ha, zk_kb_t hb]
  have h1 : vp_in (nI t) 28 := vp_in_nI ht (by omega)
  have h2 : vp_in (nI a) 28 := vp_in_nI ha (by omega)
  have h3 : vp_in (nI b) 28 := vp_in_nI hb (by omega)
  refine ⟨h1, br_f hK ⟨h2, br_c (fun e => h ch C ?_ (fun z => ⟨z, rfl⟩)) (fun e => ⟨h3, br_c (fun e' => h ch C ?_ (fun z => ⟨z, rfl⟩)) (fun e' => yk_learn ht (fun ch' C' hc hz => h ch' C' ?_ hz))⟩)⟩⟩
  · funext x
    simp [e]
  · funext x
    simp [e']
  · rw [hc, zk_nbf e, zk_nbf e']
    funext x
    simp
theorem yk_43 {post : SY → Prop} {T ch : Int32} {K A B H C : Nat → Int32} {t a b : Nat} (ht : t < 28) (ha : a < 28) (hb : b < 28) (hK : K t = 1 ∨ K t = 2) (h : ∀ (ch' : Int32) (C' : Nat → Int32), zk_kb C' = (fun x => zk_kb C x || (zk_kb C a && zk_kb C b && decide (x = t)) || (zk_kb C t && decide (K t = 2) && zk_kb C a && decide (x = b))) → (ch' = 0 → ch = 0 ∧ zk_kb C' = zk_kb C) → post (T, ch', K, A, B, H, C')) : wY_apply_43 post (nI t) (nI a) (nI b) T ch K A B H C := by
  unfold wY_apply_43
  rw [nI_clamp (by omega), nI_clamp (by omega), zk_kb_t ha, zk_kb_t ht]
  have h1 : vp_in (nI t) 28 := vp_in_nI ht (by omega)
  have h2 : vp_in (nI a) 28 := vp_in_nI ha (by omega)
  have hk0 : ¬ K t ≤ 0 := by
    rcases hK with e | e <;> rw [e] <;> decide
  refine ⟨h1, br_c (fun k2 => ⟨h1, br_c (fun e => yk_76 ht ha hb hk0 (fun ch' C' hc hz => h ch' C' ?_ hz)) (fun e => ⟨h2, br_c (fun e' => yk_76 ht ha hb hk0 (fun ch' C' hc hz => h ch' C' ?_ hz)) (fun e' => yk_learn hb (fun ch1 C1 hc1 hz1 => yk_76 ht ha hb hk0 (fun ch' C' hc hz => h ch' C' ?_ (fun z => ⟨(hz1 (hz z).1).1, ?_⟩))))⟩)⟩) (fun k2 => yk_76 ht ha hb hk0 (fun ch' C' hc hz => h ch' C' ?_ hz))⟩
  · rw [hc]
    funext x
    simp [e]
  · rw [hc]
    funext x
    simp [e']
  · rw [hc, hc1]
    have e1 := zk_nbf e
    have e2 := zk_nbf e'
    funext x
    by_cases c : x = t
    · subst c; simp [e1]
    · simp [c, e1, e2, k2]
  · rw [(hz z).2, (hz1 (hz z).1).2]
  · rw [hc]
    funext x
    simp [k2]
theorem yk_apply {post : SY → Prop} {T ch : Int32} {K A B H C : Nat → Int32} {t a b : Nat} (ht : t < 28) (ha : a < 28) (hb : b < 28) (eA : A t = nI a) (eB : B t = nI b) (hK : K t = 1 ∨ K t = 2) (h : ∀ (ch' : Int32) (C' : Nat → Int32), zk_kb C' = zk_st (K t) a b t (zk_kb C) → (ch' = 0 → ch = 0 ∧ zk_kb C' = zk_kb C) → post (T, ch', K, A, B, H, C')) : wpY_apply post (T, ch, K, A, B, H, C) (nI t) := by
  unfold wpY_apply
  dsimp only
  rw [nI_clamp (by omega), eA, eB, zk_kb_t ht]
  have h1 : vp_in (nI t) 28 := vp_in_nI ht (by omega)
  refine ⟨h1, nm_e ⟨h1, nm_e ⟨h1, br_c (fun k1 => ⟨h1, br_c (fun e => yk_43 ht ha hb hK (fun ch' C' hc hz => h ch' C' ?_ hz)) (fun e => yk_learn ha (fun ch1 C1 hc1 hz1 => yk_learn hb (fun ch2 C2 hc2 hz2 => yk_43 ht ha hb hK (fun ch' C' hc hz => h ch' C' ?_ (fun z => ⟨(hz1 (hz2 (hz z).1).1).1, ?_⟩)))))⟩) (fun k1 => yk_43 ht ha hb hK (fun ch' C' hc hz => h ch' C' ?_ hz))⟩⟩⟩
  · rw [hc]
    funext x
    simp [zk_st, e]
  · rw [hc, hc2, hc1]
    have e1 := zk_nbf e
    funext x
    by_cases c : x = t
    · subst c; simp [zk_st, e1]
    · have k2 : ¬ (1 : Int32) = 2 := by decide
      simp [zk_st, c, e1, k1, k2, Bool.or_assoc]
  · rw [(hz z).2, (hz2 (hz z).1).2, (hz1 (hz2 (hz z).1).1).2]
  · rw [hc]
    funext x
    simp [zk_st, k1]
theorem yk_apply0 {post : SY → Prop} {T ch : Int32} {K A B H C : Nat → Int32} {t : Nat} (ht : t < 28) (hK : K t = 0) (h : post (T, ch, K, A, B, H, C)) : wpY_apply post (T, ch, K, A, B, H, C) (nI t) := by
  unfold wpY_apply wY_apply_43 wY_apply_76
  dsimp only
  rw [nI_clamp (by omega), hK]
  have h1 : vp_in (nI t) 28 := vp_in_nI ht (by omega)
  exact ⟨h1, nm_e ⟨h1, nm_e ⟨h1, br_f (by decide) ⟨h1, br_f (by decide) ⟨h1, br_t (by decide) h⟩⟩⟩⟩⟩
theorem yk_pass {n : Nat} {K A B : Nat → Int32} (ok : zk_ok n K A B) {H : Nat → Int32} {post : SY → Prop} {J75 : Int32 → Int32 → Int32 → (Nat → Int32) → (Nat → Int32) → (Nat → Int32) → (Nat → Int32) → (Nat → Int32) → Prop} {x4 : Int32} : ∀ (d t : Nat) (ch : Int32) (C : Nat → Int32), 8 ≤ t → t + d = n → ∀ fuel, d < fuel → (∀ (ch' : Int32) (C' : Nat → Int32), zk_kb C' = zk_q K A B d t (zk_kb C) → (ch' = 0 → ch = 0 ∧ zk_kb C' = zk_kb C) → ∀ y, y = x4 + 1 → J75 y (nI n) ch' K A B H C') → wY_work_97 post J75 x4 fuel (nI t) (nI n) ch K A B H C := by
  have hn := ok.1
  intro d
  induction d with
  | zero =>
    intro t ch C h8 ht fuel hf h
    obtain ⟨f, rfl⟩ : ∃ f, fuel = f + 1 := ⟨fuel - 1, by omega⟩
    rw [wY_work_97]
    exact br_t (nI_le (by omega) (by omega)) (h ch C rfl (fun z => ⟨z, rfl⟩))
  | succ d ih =>
    intro t ch C h8 ht fuel hf h
    obtain ⟨f, rfl⟩ : ∃ f, fuel = f + 1 := ⟨fuel - 1, by omega⟩
    rw [wY_work_97]
    obtain ⟨hK, a, b, ha, hb, eA, eB⟩ := ok.2.2 t h8 (by omega)
    refine br_f (nI_ge (by omega) (by omega)) (yk_apply (by omega) (Nat.lt_of_lt_of_le ha hn.2) (Nat.lt_of_lt_of_le hb hn.2) eA eB hK (fun ch1 C1 hc1 hz1 => nm_r (nI_1 t) (ih (t + 1) ch1 C1 (by omega) (by omega) f (by omega) (fun ch' C' hc hz => h ch' C' ?_ (fun z => ⟨(hz1 (hz z).1).1, ?_⟩)))))
    · rw [hc, hc1]
      show _ = zk_q K A B d (t + 1) (zk_s K A B t (zk_kb C))
      rw [zk_s, eA, eB, nI_clamp (by omega), nI_clamp (by omega)]
    · rw [(hz z).2, (hz1 (hz z).1).2]
theorem yk_pre {n : Nat} {K A B : Nat → Int32} (ok : zk_ok n K A B) {H : Nat → Int32} {post : SY → Prop} {J75 : Int32 → Int32 → Int32 → (Nat → Int32) → (Nat → Int32) → (Nat → Int32) → (Nat → Int32) → (Nat → Int32) → Prop} {x4 ch : Int32} {C : Nat → Int32} {f : Nat} (h : wY_work_97 post J75 x4 f (nI 8) (nI n) ch K A B H C) : ∀ (d t : Nat), t + d = 8 → wY_work_97 post J75 x4 (f + d) (nI t) (nI n) ch K A B H C := by
  have hn := ok.1
  intro d
  induction d with
  | zero =>
    intro t ht
    have e : t = 8 := by omega
    subst e
    exact h
  | succ d ih =>
    intro t ht
    rw [← Nat.add_assoc, wY_work_97]
    exact br_f (nI_ge (by omega) (by omega)) (yk_apply0 (by omega) (ok.2.1 t (by omega)) (nm_r (nI_1 t) (ih (t + 1) (by omega))))
theorem yk_75 {n : Nat} {K A B : Nat → Int32} (ok : zk_ok n K A B) {H : Nat → Int32} {post : SY → Prop} : ∀ (d r : Nat) (ch : Int32) (C : Nat → Int32), r + d = 30 → ∀ fuel, d < fuel → (ch = 0 → zk_p n K A B (zk_kb C) = zk_kb C) → (∀ (ch' : Int32) (C' : Nat → Int32), zk_kb C' = zk_it (zk_p n K A B) d (zk_kb C) → post (nI n, ch', K, A, B, H, C')) → wY_work_75 post fuel (nI r) (nI n) ch K A B H C := by
  have hn := ok.1
  intro d
  induction d with
  | zero =>
    intro r ch C hr fuel hf hq h
    obtain ⟨f, rfl⟩ : ∃ f, fuel = f + 1 := ⟨fuel - 1, by omega⟩
    rw [wY_work_75]
    exact br_t (nI_le (a := 30) (by omega) (by omega)) (h ch C rfl)
  | succ d ih =>
    intro r ch C hr fuel hf hq h
    obtain ⟨f, rfl⟩ : ∃ f, fuel = f + 1 := ⟨fuel - 1, by omega⟩
    rw [wY_work_75]
    refine br_f (nI_ge (b := 30) (by omega) (by omega)) (br_c (fun c => h ch C (zk_it_fix (hq c) (d + 1)).symm) (fun c => ⟨n - 8 + 1 + 8, yk_pre ok (yk_pass ok (n - 8) 8 0 C (by omega) (by omega) _ (by omega) (fun ch1 C1 hc1 hz1 => nm_r (nI_1 r) (ih (r + 1) ch1 C1 (by omega) f (by omega) (fun z => ?_) (fun ch' C' hc => h ch' C' ?_)))) 8 0 (by omega)⟩))
    · have e := (hz1 z).2
      rw [e]
      exact hc1.symm.trans e
    · rw [hc, hc1]
      rfl
def zk_wk (p0 p1 p2 : Int32) (H : Nat → Int32) (i : Nat) : Bool := decide (i < 28) && ((!decide (H i = 0) && !decide (nI i = p2)) || decide (nI i = p0) || (decide (i < 8) && decide (((p1 >>> (nI i &&& 31)) &&& 1) = 1)))
theorem zk_nx {C : Nat → Int32} {W : Nat → Bool} {i : Nat} {x : Int32} (h : ∀ j, j < i → (!decide (C j = 0)) = W j) (hi : (!decide (x = 0)) = W i) : ∀ j, j < i + 1 → (!decide (upd C i x j = 0)) = W j := by
  intro j hj
  by_cases e : j = i
  · subst e
    rw [pk_us]
    exact hi
  · rw [pk_un e]
    exact h j (by omega)
theorem yk_start {n : Nat} {K A B : Nat → Int32} (ok : zk_ok n K A B) {H : Nat → Int32} {post : SY → Prop} {p0 p1 p2 ch : Int32} (h : ∀ (ch' : Int32) (C' : Nat → Int32), zk_kb C' = zk_cl n K A B (zk_wk p0 p1 p2 H) → post (nI n, ch', K, A, B, H, C')) : ∀ (d i : Nat) (C : Nat → Int32), i + d = 28 → ∀ fuel, d < fuel → (∀ j, j < i → (!decide (C j = 0)) = zk_wk p0 p1 p2 H j) → wY_work_3 post p0 p1 p2 (nI n) ch fuel (nI i) K A B H C := by
  have hn := ok.1
  intro d
  induction d with
  | zero =>
    intro i C hi fuel hf hq
    obtain ⟨f, rfl⟩ : ∃ f, fuel = f + 1 := ⟨fuel - 1, by omega⟩
    rw [wY_work_3]
    refine br_t (nI_le (a := 28) (by omega) (by omega)) ⟨31, yk_75 ok 30 0 1 C (by omega) 31 (by omega) (fun z => absurd z (by decide)) (fun ch' C' hc => h ch' C' ?_)⟩
    rw [hc, zk_cl_30 ok]
    have e : zk_kb C = zk_wk p0 p1 p2 H := by
      funext j
      by_cases c : j < 28
      · have := hq j (by omega)
        rw [← this]
        simp [zk_kb, c]
      · simp [zk_kb, zk_wk, c]
    rw [e]
  | succ d ih =>
    intro i C hi fuel hf hq
    obtain ⟨f, rfl⟩ : ∃ f, fuel = f + 1 := ⟨fuel - 1, by omega⟩
    rw [wY_work_3]
    dsimp only
    unfold wY_work_32
    rw [nI_clamp (by omega), zk_v0, zk_v1]
    have hin : vp_in (nI i) 28 := vp_in_nI (by omega) (by omega)
    have hi28 : i < 28 := by omega
    have go : ∀ x : Int32, (!decide (x = 0)) = zk_wk p0 p1 p2 H i → wY_work_3 post p0 p1 p2 (nI n) ch f (nI (i + 1)) K A B H (upd C i x) :=
      fun x hx => ih (i + 1) _ (by omega) f (by omega) (zk_nx hq hx)
    have g1 : zk_wk p0 p1 p2 H i = true → ∀ C', C' = upd C i 1 → ∀ y, y = nI i + 1 → wY_work_3 post p0 p1 p2 (nI n) ch f y K A B H C' :=
      fun hw => nm_e (nm_r (nI_1 i) (go 1 (by rw [hw]; decide)))
    have g0 : zk_wk p0 p1 p2 H i = false → ∀ C', C' = upd C i 0 → ∀ y, y = nI i + 1 → wY_work_3 post p0 p1 p2 (nI n) ch f y K A B H C' :=
      fun hw => nm_e (nm_r (nI_1 i) (go 0 (by rw [hw]; decide)))
    have tail : (H i = 0 ∨ nI i = p2) → ((nI i = p0 → (vp_in (nI i) 28 ∧ ∀ C', C' = upd C i 1 → ∀ y, y = nI i + 1 → wY_work_3 post p0 p1 p2 (nI n) ch f y K A B H C')) ∧ (¬ nI i = p0 → ((8 ≤ nI i → (vp_in (nI i) 28 ∧ ∀ C', C' = upd C i 0 → ∀ y, y = nI i + 1 → wY_work_3 post p0 p1 p2 (nI n) ch f y K A B H C')) ∧ (¬ 8 ≤ nI i → ((((p1 >>> (nI i &&& 31)) &&& 1) = 1 → (vp_in (nI i) 28 ∧ ∀ C', C' = upd C i 1 → ∀ y, y = nI i + 1 → wY_work_3 post p0 p1 p2 (nI n) ch f y K A B H C')) ∧ (¬ ((p1 >>> (nI i &&& 31)) &&& 1) = 1 → (vp_in (nI i) 28 ∧ ∀ C', C' = upd C i 0 → ∀ y, y = nI i + 1 → wY_work_3 post p0 p1 p2 (nI n) ch f y K A B H C'))))))) := by
      intro hh
      refine br_c (fun c => ⟨hin, g1 (by simp [zk_wk, hi28, c])⟩) (fun c => pk_le 8 i (fun c8 => ⟨hin, g0 ?_⟩) (fun c8 => br_c (fun cb => ⟨hin, g1 (by simp [zk_wk, hi28, c8, cb])⟩) (fun cb => ⟨hin, g0 ?_⟩)))
      · have : ¬ i < 8 := by omega
        rcases hh with e | e
        · simp [zk_wk, e, c, this]
        · have c' : ¬ p2 = p0 := fun z => c (e.trans z)
          simp [zk_wk, e, c', this]
      · rcases hh with e | e
        · simp [zk_wk, e, c, cb]
        · simp only [zk_wk, e, cb]
          have c' : ¬ p2 = p0 := fun z => c (e.trans z)
          rw [e] at cb
          simp [c', cb]
    refine br_f (nI_ge (b := 28) (by omega) (by omega)) ⟨hin, br_c (fun c => tail (Or.inl c)) (fun c => br_c (fun c2 => tail (Or.inr c2)) (fun c2 => ⟨hin, g1 (by simp [zk_wk, hi28, c, c2])⟩))⟩
theorem yk_work {n : Nat} {K A B : Nat → Int32} (ok : zk_ok n K A B) {H C : Nat → Int32} {post : SY → Prop} {p0 p1 p2 ch : Int32} (h : ∀ (ch' : Int32) (C' : Nat → Int32), zk_kb C' = zk_cl n K A B (zk_wk p0 p1 p2 H) → post (nI n, ch', K, A, B, H, C')) : wpY_work post (nI n, ch, K, A, B, H, C) p0 p1 p2 := by
  unfold wpY_work
  dsimp only
  exact ⟨29, yk_start ok h 28 0 C (by omega) 29 (by omega) (fun j hj => absurd hj (by omega))⟩
