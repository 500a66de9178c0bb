theorem pk_us {f : Nat → Int32} {k : Nat} {x : Int32} : upd f k x k = x := if_pos rfl
theorem pk_un {f : Nat → Int32} {k j : Nat} {x : Int32} (h : j ≠ k) : upd f k x j = f j := if_neg h
theorem pk_ix (x : Int32) {n : Nat} (hn : n < 2 ^ 31) : x < 0 ∨ nI n ≤ x ∨ ∃ j : Nat, j < n ∧ x = nI j := by
  by_cases h : x < 0
  · exact Or.inl h
  · obtain ⟨j, hj, rfl⟩ := nI_of h
    by_cases h2 : j < n
    · exact Or.inr (Or.inr ⟨j, h2, rfl⟩)
    · exact Or.inr (Or.inl (nI_le (by omega) hj))
theorem pk_le {x y : Int32} {A B : Prop} (a b : Nat) (f : a ≤ b → A) (g : b < a → B) (hx : x = nI a := by rfl) (hy : y = nI b := by rfl) (ha : a < 2 ^ 31 := by omega) (hb : b < 2 ^ 31 := by omega) : (x ≤ y → A) ∧ (¬ x ≤ y → B) := by
  subst hx hy
  rw [nI_leI ha hb]
  exact ⟨f, fun z => g (by omega)⟩
theorem pk_lt {x y : Int32} {A B : Prop} (a b : Nat) (f : a < b → A) (g : b ≤ a → B) (hx : x = nI a := by rfl) (hy : y = nI b := by rfl) (ha : a < 2 ^ 31 := by omega) (hb : b < 2 ^ 31 := by omega) : (x < y → A) ∧ (¬ x < y → B) := by
  subst hx hy
  rw [nI_ltI ha hb]
  exact ⟨f, fun z => g (by omega)⟩
theorem pk_eq {x y : Int32} {A B : Prop} (a b : Nat) (f : a = b → A) (g : a ≠ b → B) (hx : x = nI a := by rfl) (hy : y = nI b := by rfl) (ha : a < 2 ^ 31 := by omega) (hb : b < 2 ^ 31 := by omega) : (x = y → A) ∧ (¬ x = y → B) := by
  subst hx hy
  rw [nI_eq ha hb]
  exact ⟨f, g⟩
def bt (x : Int32) (i : Nat) : Bool := x.toBitVec.getLsbD i
theorem b_ext {x y : Int32} (h : ∀ i, i < 32 → bt x i = bt y i) : x = y := Int32.toBitVec_inj.mp (BitVec.eq_of_getLsbD_eq (fun i hi => h i hi))
theorem b_or (x y : Int32) (i : Nat) : bt (x ||| y) i = (bt x i || bt y i) := by unfold bt; rw [Int32.toBitVec_or, BitVec.getLsbD_or]
theorem b_and (x y : Int32) (i : Nat) : bt (x &&& y) i = (bt x i && bt y i) := by unfold bt; rw [Int32.toBitVec_and, BitVec.getLsbD_and]
theorem b_xor (x y : Int32) (i : Nat) : bt (x ^^^ y) i = (bt x i ^^ bt y i) := by unfold bt; rw [Int32.toBitVec_xor, BitVec.getLsbD_xor]
theorem b_big {x : Int32} {i : Nat} (h : 32 ≤ i) : bt x i = false := BitVec.getLsbD_of_ge _ _ h
theorem b_m1 : ∀ i, i < 32 → bt (-1) i = true := by decide +kernel
theorem b_0 (i : Nat) : bt 0 i = false := BitVec.getLsbD_zero
theorem s_l : ∀ n, n < 32 → ((nI n &&& 31).toBitVec.smod 32).toNat = n := by decide +kernel
theorem b_sshr (n : Nat) (hn : n < 32) (x : Int32) {i : Nat} (hi : i < 32) : bt (x >>> (nI n &&& 31)) i = if n + i < 32 then bt x (n + i) else bt x 31 := by
  unfold bt
  rw [Int32.toBitVec_shiftRight]
  show (x.toBitVec.sshiftRight ((nI n &&& 31).toBitVec.smod 32).toNat).getLsbD i = _
  rw [s_l n hn, BitVec.getLsbD_sshiftRight, BitVec.msb_eq_getLsbD_last]
  simp [hi]
/-! bits of a mask -/
theorem zk_one {l : Nat} (hl : l < 32) (i : Nat) : bt ((1 : Int32) <<< (nI l &&& 31)) i = decide (i = l) := by
  rcases Nat.lt_or_ge i 32 with h | h
  · exact (by decide +kernel : ∀ l, l < 32 → ∀ i, i < 32 → bt ((1 : Int32) <<< (nI l &&& 31)) i = decide (i = l)) l hl i h
  · rw [b_big h, decide_eq_false (by omega)]
theorem zk_has0 {l : Nat} (hl : l < 32) (m : Int32) : (m &&& ((1 : Int32) <<< (nI l &&& 31))) = 0 ↔ bt m l = false := by
  constructor
  · intro h
    have e := congrArg (fun z => bt z l) h
    rw [b_and, zk_one hl, b_0] at e
    simpa using e
  · intro h
    refine b_ext (fun i _ => ?_)
    rw [b_and, zk_one hl, b_0]
    by_cases e : i = l
    · subst e; simp [h]
    · simp [e]
theorem zk_both {a b : Nat} (ha : a < 32) (hb : b < 32) (m : Int32) : (m &&& (((1 : Int32) <<< (nI a &&& 31)) ||| ((1 : Int32) <<< (nI b &&& 31)))) = (((1 : Int32) <<< (nI a &&& 31)) ||| ((1 : Int32) <<< (nI b &&& 31))) ↔ (bt m a = true ∧ bt m b = true) := by
  constructor
  · intro h
    have e1 := congrArg (fun z => bt z a) h
    have e2 := congrArg (fun z => bt z b) h
    rw [b_and, b_or, zk_one ha, zk_one hb] at e1 e2
    simp at e1 e2
    exact ⟨e1, e2⟩
  · intro h
    refine b_ext (fun i _ => ?_)
    rw [b_and, b_or, zk_one ha, zk_one hb]
    by_cases e : i = a
    · subst e; simp [h.1]
    · by_cases e' : i = b
      · subst e'; simp [h.2]
      · simp [e, e']
theorem zk_b1 : ∀ j, j < 32 → bt 1 j = decide (j = 0) := by decide +kernel
theorem zk_bit (x : Int32) {i : Nat} (hi : i < 32) : ((x >>> (nI i &&& 31)) &&& 1) = if bt x i = true then 1 else 0 := by
  refine b_ext (fun j hj => ?_)
  rw [b_and, zk_b1 j hj, b_sshr i hi x hj]
  by_cases e : j = 0
  · subst e
    cases h : bt x i
    · simp [hi, h, b_0]
    · simp [hi, h]
      exact (zk_b1 0 (by omega)).symm ▸ rfl
  · cases h : bt x i
    · simp [e, b_0]
    · simp [e]
      exact (zk_b1 j hj).trans (decide_eq_false e)
theorem zk_off {l : Nat} (hl : l < 32) (m : Int32) (i : Nat) : bt (m &&& (((1 : Int32) <<< (nI l &&& 31)) ^^^ (-1))) i = (bt m i && !decide (i = l)) := by
  rw [b_and, b_xor, zk_one hl]
  rcases Nat.lt_or_ge i 32 with h | h
  · rw [b_m1 i h]; simp
  · rw [b_big h]; simp
theorem zk_on {l : Nat} (hl : l < 32) (m : Int32) (i : Nat) : bt (m ||| ((1 : Int32) <<< (nI l &&& 31))) i = (bt m i || decide (i = l)) := by
  rw [b_or, zk_one hl]
theorem zk_ainj {x y : Int32} (h : bt x = bt y) : x = y := b_ext (fun i _ => congrFun h i)
theorem zk_nbt {x : Bool} (h : ¬ x = true) : x = false := by cases x <;> simp_all
theorem zk_nbf {x : Bool} (h : ¬ x = false) : x = true := by cases x <;> simp_all
/-! counting -/
def zk_cn (S : Nat → Bool) : Nat → Nat
  | 0 => 0
  | k + 1 => zk_cn S k + (if S k = true then 1 else 0)
theorem zk_cn_b (S : Nat → Bool) : ∀ k, zk_cn S k ≤ k := by
  intro k
  induction k with
  | zero => exact Nat.le_refl 0
  | succ k ih => simp only [zk_cn]; split <;> omega
theorem zk_cn_le {S T : Nat → Bool} (h : ∀ x, S x = true → T x = true) : ∀ k, zk_cn S k ≤ zk_cn T k := by
  intro k
  induction k with
  | zero => exact Nat.le_refl 0
  | succ k ih =>
    simp only [zk_cn]
    have := h k
    by_cases e : S k = true
    · rw [if_pos e, if_pos (this e)]; omega
    · rw [if_neg e]; omega
theorem zk_cn_lt {S T : Nat → Bool} (h : ∀ x, S x = true → T x = true) {x : Nat} (hs : S x = false) (ht : T x = true) : ∀ k, x < k → zk_cn S k < zk_cn T k := by
  intro k
  induction k with
  | zero => intro hx; omega
  | succ k ih =>
    intro hx
    simp only [zk_cn]
    by_cases e : x = k
    · subst e
      have := zk_cn_le h x
      rw [if_neg (by rw [hs]; decide), if_pos ht]; omega
    · have h1 := ih (by omega)
      have := h k
      by_cases e : S k = true
      · rw [if_pos e, if_pos (this e)]; omega
      · rw [if_neg e]; omega
theorem zk_cn_ext {S T : Nat → Bool} : ∀ k, (∀ x, x < k → S x = T x) → zk_cn S k = zk_cn T k := by
  intro k
  induction k with
  | zero => intro _; rfl
  | succ k ih =>
    intro h
    simp only [zk_cn]
    rw [ih (fun x hx => h x (by omega)), h k (by omega)]
theorem zk_cn_z {S : Nat → Bool} {n : Nat} (h : ∀ x, n ≤ x → S x = false) : ∀ k, n ≤ k → zk_cn S k = zk_cn S n := by
  intro k
  induction k with
  | zero => intro hk; have : n = 0 := by omega
            subst this; rfl
  | succ k ih =>
    intro hk
    by_cases e : n = k + 1
    · subst e; rfl
    · simp only [zk_cn]
      rw [ih (by omega), h k (by omega)]; rfl
/-! iterating a step that only adds, and only below 28 -/
def zk_it (f : (Nat → Bool) → Nat → Bool) : Nat → (Nat → Bool) → Nat → Bool
  | 0, S => S
  | d + 1, S => zk_it f d (f S)
theorem zk_it_s (f : (Nat → Bool) → Nat → Bool) : ∀ d S, zk_it f d (f S) = f (zk_it f d S) := by
  intro d
  induction d with
  | zero => intro S; rfl
  | succ d ih => intro S; exact ih (f S)
theorem zk_it_fix {f : (Nat → Bool) → Nat → Bool} {S : Nat → Bool} (h : f S = S) : ∀ d, zk_it f d S = S := by
  intro d
  induction d with
  | zero => rfl
  | succ d ih => show zk_it f d (f S) = S; rw [h, ih]
def zk_ext (f : (Nat → Bool) → Nat → Bool) : Prop := ∀ S x, S x = true → f S x = true
def zk_mon (f : (Nat → Bool) → Nat → Bool) : Prop := ∀ S T : Nat → Bool, (∀ x, S x = true → T x = true) → ∀ x, f S x = true → f T x = true
def zk_loc (N : Nat) (f : (Nat → Bool) → Nat → Bool) : Prop := ∀ S x, N ≤ x → f S x = S x
theorem zk_grow {f : (Nat → Bool) → Nat → Bool} {N : Nat} (he : zk_ext f) (hl : zk_loc N f) (S : Nat → Bool) : f S = S ∨ zk_cn S N < zk_cn (f S) N := by
  by_cases h : ∀ x, x < N → f S x = S x
  · refine Or.inl (funext fun x => ?_)
    rcases Nat.lt_or_ge x N with hx | hx
    · exact h x hx
    · exact hl S x hx
  · refine Or.inr ?_
    have ⟨x, hx⟩ := Classical.not_forall.mp h
    have ⟨h1, h2⟩ := Classical.not_imp.mp hx
    have hs : S x = false := by
      cases e : S x
      · rfl
      · exact absurd ((he S x e).trans e.symm) h2
    have ht : f S x = true := by
      cases e : f S x
      · exact absurd (e.trans hs.symm) h2
      · rfl
    exact zk_cn_lt (he S) hs ht N h1
theorem zk_fix_or {f : (Nat → Bool) → Nat → Bool} {N : Nat} (he : zk_ext f) (hl : zk_loc N f) (S : Nat → Bool) : ∀ d, f (zk_it f d S) = zk_it f d S ∨ d ≤ zk_cn (zk_it f d S) N := by
  intro d
  induction d with
  | zero => exact Or.inr (Nat.zero_le _)
  | succ d ih =>
    have e : zk_it f (d + 1) S = f (zk_it f d S) := zk_it_s f d S
    rw [e]
    rcases ih with h | h
    · exact Or.inl (by rw [h, h])
    · rcases zk_grow he hl (zk_it f d S) with g | g
      · exact Or.inl (by rw [g, g])
      · exact Or.inr (by omega)
theorem zk_fix {f : (Nat → Bool) → Nat → Bool} {N : Nat} (he : zk_ext f) (hl : zk_loc N f) (S : Nat → Bool) {d : Nat} (hd : N < d) : f (zk_it f d S) = zk_it f d S := by
  rcases zk_fix_or he hl S d with h | h
  · exact h
  · have := zk_cn_b (zk_it f d S) N
    omega
theorem zk_it_more {f : (Nat → Bool) → Nat → Bool} {N : Nat} (he : zk_ext f) (hl : zk_loc N f) (S : Nat → Bool) {d : Nat} (hd : N < d) : zk_it f (d + 1) S = zk_it f d S :=
  (zk_it_s f d S).trans (zk_fix he hl S hd)
theorem zk_it_ext {f : (Nat → Bool) → Nat → Bool} (he : zk_ext f) : ∀ d, zk_ext (zk_it f d) := by
  intro d
  induction d with
  | zero => intro S x h; exact h
  | succ d ih => intro S x h; exact ih (f S) x (he S x h)
theorem zk_it_mon {f : (Nat → Bool) → Nat → Bool} (hm : zk_mon f) : ∀ d, zk_mon (zk_it f d) := by
  intro d
  induction d with
  | zero => intro S T h x hx; exact h x hx
  | succ d ih => intro S T h; exact ih (f S) (f T) (hm S T h)
theorem zk_it_loc {f : (Nat → Bool) → Nat → Bool} {N : Nat} (hl : zk_loc N f) : ∀ d, zk_loc N (zk_it f d) := by
  intro d
  induction d with
  | zero => intro S x _; rfl
  | succ d ih => intro S x h; exact (ih (f S) x h).trans (hl S x h)
/-! one step at a term, a pass, the closure -/
def zk_st (k : Int32) (a b t : Nat) (S : Nat → Bool) : Nat → Bool := fun x => S x || (S a && S b && decide (x = t)) || (S t && decide (k = 1) && (decide (x = a) || decide (x = b))) || (S t && decide (k = 2) && S a && decide (x = b))
theorem zk_st_ext (k : Int32) (a b t : Nat) : zk_ext (zk_st k a b t) := by
  intro S x h
  simp [zk_st, h]
theorem zk_st_mon (k : Int32) (a b t : Nat) : zk_mon (zk_st k a b t) := by
  intro S T h x
  have ha := h a
  have hb := h b
  have ht := h t
  have hx := h x
  simp only [zk_st, Bool.or_eq_true, Bool.and_eq_true]
  rintro (((h1 | ⟨⟨h1, h2⟩, h3⟩) | ⟨⟨h1, h2⟩, h3⟩) | ⟨⟨⟨h1, h2⟩, h3⟩, h4⟩)
  · exact Or.inl (Or.inl (Or.inl (hx h1)))
  · exact Or.inl (Or.inl (Or.inr ⟨⟨ha h1, hb h2⟩, h3⟩))
  · exact Or.inl (Or.inr ⟨⟨ht h1, h2⟩, h3⟩)
  · exact Or.inr ⟨⟨⟨ht h1, h2⟩, ha h3⟩, h4⟩
theorem zk_st_loc {k : Int32} {a b t N : Nat} (ha : a < N) (hb : b < N) (ht : t < N) : zk_loc N (zk_st k a b t) := by
  intro S x hx
  have h1 : x ≠ a := by omega
  have h2 : x ≠ b := by omega
  have h3 : x ≠ t := by omega
  simp [zk_st, h1, h2, h3]
def zk_ok (n : Nat) (K A B : Nat → Int32) : Prop := (8 ≤ n ∧ n ≤ 28) ∧ (∀ t, t < 8 → K t = 0) ∧ (∀ t, 8 ≤ t → t < n → (K t = 1 ∨ K t = 2) ∧ ∃ a b, a < n ∧ b < n ∧ A t = nI a ∧ B t = nI b)
def zk_s (K A B : Nat → Int32) (t : Nat) (S : Nat → Bool) : Nat → Bool := zk_st (K t) (A t).toNatClampNeg (B t).toNatClampNeg t S
def zk_q (K A B : Nat → Int32) : Nat → Nat → (Nat → Bool) → Nat → Bool
  | 0, _, S => S
  | d + 1, t, S => zk_q K A B d (t + 1) (zk_s K A B t S)
theorem zk_q_ext (K A B : Nat → Int32) : ∀ d t, zk_ext (zk_q K A B d t) := by
  intro d
  induction d with
  | zero => intro t S x h; exact h
  | succ d ih => intro t S x h; exact ih (t + 1) _ x (zk_st_ext _ _ _ _ S x h)
theorem zk_q_mon (K A B : Nat → Int32) : ∀ d t, zk_mon (zk_q K A B d t) := by
  intro d
  induction d with
  | zero => intro t S T h x hx; exact h x hx
  | succ d ih => intro t S T h; exact ih (t + 1) _ _ (zk_st_mon _ _ _ _ S T h)
theorem zk_q_loc {n : Nat} {K A B : Nat → Int32} (ok : zk_ok n K A B) : ∀ d t, 8 ≤ t → t + d = n → zk_loc n (zk_q K A B d t) := by
  intro d
  induction d with
  | zero => intro t _ _ S x _; rfl
  | succ d ih =>
    intro t h8 ht S x hx
    have e := ih (t + 1) (by omega) (by omega) (zk_s K A B t S) x hx
    refine e.trans ?_
    obtain ⟨_, a, b, ha, hb, eA, eB⟩ := ok.2.2 t h8 (by omega)
    have := ok.1
    show zk_st _ _ _ t S x = S x
    rw [eA, eB, nI_clamp (by omega), nI_clamp (by omega)]
    exact zk_st_loc ha hb (by omega) S x hx
def zk_p (n : Nat) (K A B : Nat → Int32) (S : Nat → Bool) : Nat → Bool := zk_q K A B (n - 8) 8 S
def zk_cl (n : Nat) (K A B : Nat → Int32) (S : Nat → Bool) : Nat → Bool := zk_it (zk_p n K A B) 29 S
theorem zk_p_loc {n : Nat} {K A B : Nat → Int32} (ok : zk_ok n K A B) : zk_loc n (zk_p n K A B) :=
  zk_q_loc ok (n - 8) 8 (Nat.le_refl 8) (by have := ok.1; omega)
theorem zk_p_ext (n : Nat) (K A B : Nat → Int32) : zk_ext (zk_p n K A B) := zk_q_ext K A B _ _
theorem zk_p_mon (n : Nat) (K A B : Nat → Int32) : zk_mon (zk_p n K A B) := zk_q_mon K A B _ _
theorem zk_cl_ext (n : Nat) (K A B : Nat → Int32) : zk_ext (zk_cl n K A B) := zk_it_ext (zk_p_ext n K A B) 29
theorem zk_cl_mon (n : Nat) (K A B : Nat → Int32) : zk_mon (zk_cl n K A B) := zk_it_mon (zk_p_mon n K A B) 29
theorem zk_cl_loc {n : Nat} {K A B : Nat → Int32} (ok : zk_ok n K A B) : zk_loc n (zk_cl n K A B) := zk_it_loc (zk_p_loc ok) 29
theorem zk_cl_fix {n : Nat} {K A B : Nat → Int32} (ok : zk_ok n K A B) (S : Nat → Bool) : zk_cl n K A B (zk_cl n K A B S) = zk_cl n K A B S :=
  zk_it_fix (zk_fix (zk_p_ext n K A B) (zk_p_loc ok) S (by have := ok.1; omega)) 29
theorem zk_cl_30 {n : Nat} {K A B : Nat → Int32} (ok : zk_ok n K A B) (S : Nat → Bool) : zk_it (zk_p n K A B) 30 S = zk_cl n K A B S :=
  zk_it_more (zk_p_ext n K A B) (zk_p_loc ok) S (by have := ok.1; omega)
/-- leaving t out changes the closure exactly where the closure without t lacks t -/
theorem zk_spare {n : Nat} {K A B : Nat → Int32} (ok : zk_ok n K A B) {H : Nat → Bool} {t : Nat} (ht : H t = true) : zk_cl n K A B (fun i => H i && !decide (i = t)) = zk_cl n K A B H ↔ zk_cl n K A B (fun i => H i && !decide (i = t)) t = true := by
  constructor
  · intro h
    rw [h]
    exact zk_cl_ext n K A B H t ht
  · intro h
    have lo : ∀ x, zk_cl n K A B (fun i => H i && !decide (i = t)) x = true → zk_cl n K A B H x = true :=
      zk_cl_mon n K A B _ _ (fun x hx => by simp at hx; exact hx.1)
    have hi : ∀ x, zk_cl n K A B H x = true → zk_cl n K A B (fun i => H i && !decide (i = t)) x = true := by
      intro x hx
      rw [← zk_cl_fix ok]
      refine zk_cl_mon n K A B H _ (fun y hy => ?_) x hx
      by_cases e : y = t
      · rw [e]; exact h
      · exact zk_cl_ext n K A B _ y (by simp [hy, e])
    funext x
    exact Bool.eq_iff_iff.mpr ⟨lo x, hi x⟩
