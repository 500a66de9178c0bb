section
theorem pk_us {f : Nat → Int32} {k : Nat} {x : Int32} : upd f k x k = x := if_pos rfl
theorem pk_un {f : Nat → Int32} {k j : Nat} {x : Int32} (h : j ≠ k) : upd f k x j = f j := if_neg h
theorem pk_ix (x : Int32) {n : Nat} (hn : n < 2 ^ 31) : x < 0 ∨ nI n ≤ x ∨ ∃ j : Nat, j < n ∧ x = nI j := by
  by_cases h : x < 0
  · exact Or.inl h
  · obtain ⟨j, hj, rfl⟩ := nI_of h
    by_cases h2 : j < n
    · exact Or.inr (Or.inr ⟨j, h2, rfl⟩)
    · exact Or.inr (Or.inl (nI_le (by omega) hj))
theorem pk_le {x y : Int32} {A B : Prop} (a b : Nat) (f : a ≤ b → A) (g : b < a → B) (hx : x = nI a := by rfl) (hy : y = nI b := by rfl) (ha : a < 2 ^ 31 := by omega) (hb : b < 2 ^ 31 := by omega) : (x ≤ y → A) ∧ (¬ x ≤ y → B) := by
  subst hx hy
  rw [nI_leI ha hb]
  exact ⟨f, fun z => g (by omega)⟩
theorem pk_lt {x y : Int32} {A B : Prop} (a b : Nat) (f : a < b → A) (g : b ≤ a → B) (hx : x = nI a := by rfl) (hy : y = nI b := by rfl) (ha : a < 2 ^ 31 := by omega) (hb : b < 2 ^ 31 := by omega) : (x < y → A) ∧ (¬ x < y → B) := by
  subst hx hy
  rw [nI_ltI ha hb]
  exact ⟨f, fun z => g (by omega)⟩
theorem pk_eq {x y : Int32} {A B : Prop} (a b : Nat) (f : a = b → A) (g : a ≠ b → B) (hx : x = nI a := by rfl) (hy : y = nI b := by rfl) (ha : a < 2 ^ 31 := by omega) (hb : b < 2 ^ 31 := by omega) : (x = y → A) ∧ (¬ x = y → B) := by
  subst hx hy
  rw [nI_eq ha hb]
  exact ⟨f, g⟩
def bt (x : Int32) (i : Nat) : Bool := x.toBitVec.getLsbD i
theorem b_ext {x y : Int32} (h : ∀ i, i < 32 → bt x i = bt y i) : x = y := Int32.toBitVec_inj.mp (BitVec.eq_of_getLsbD_eq (fun i hi => h i hi))
theorem b_or (x y : Int32) (i : Nat) : bt (x ||| y) i = (bt x i || bt y i) := by unfold bt; rw [Int32.toBitVec_or, BitVec.getLsbD_or]
theorem b_and (x y : Int32) (i : Nat) : bt (x &&& y) i = (bt x i && bt y i) := by unfold bt; rw [Int32.toBitVec_and, BitVec.getLsbD_and]
theorem b_xor (x y : Int32) (i : Nat) : bt (x ^^^ y) i = (bt x i ^^ bt y i) := by unfold bt; rw [Int32.toBitVec_xor, BitVec.getLsbD_xor]
theorem b_big {x : Int32} {i : Nat} (h : 32 ≤ i) : bt x i = false := BitVec.getLsbD_of_ge _ _ h
theorem b_m1 : ∀ i, i < 32 → bt (-1) i = true := by decide +kernel
theorem b_0 (i : Nat) : bt 0 i = false := BitVec.getLsbD_zero
theorem s_l : ∀ n, n < 32 → ((nI n &&& 31).toBitVec.smod 32).toNat = n := by decide +kernel
theorem b_sshr (n : Nat) (hn : n < 32) (x : Int32) {i : Nat} (hi : i < 32) : bt (x >>> (nI n &&& 31)) i = if n + i < 32 then bt x (n + i) else bt x 31 := by
  unfold bt
  rw [Int32.toBitVec_shiftRight]
  show (x.toBitVec.sshiftRight ((nI n &&& 31).toBitVec.smod 32).toNat).getLsbD i = _
  rw [s_l n hn, BitVec.getLsbD_sshiftRight, BitVec.msb_eq_getLsbD_last]
  simp [hi]
/-! bits of a mask -/
theorem zk_one {l : Nat} (hl : l < 32) (i : Nat) : bt ((1 : Int32) <<< (nI l &&& 31)) i = decide (i = l) := by
  rcases Nat.lt_or_ge i 32 with h | h
  · exact (by decide +kernel : ∀ l, l < 32 → ∀ i, i < 32 → bt ((1 : Int32) <<< (nI l &&& 31)) i = decide (i = l)) l hl i h
  · rw [b_big h, decide_eq_false (by omega)]
theorem zk_has0 {l : Nat} (hl : l < 32) (m : Int32) : (m &&& ((1 : Int32) <<< (nI l &&& 31))) = 0 ↔ bt m l = false := by
  constructor
  · intro h
    have e := congrArg (fun z => bt z l) h
    rw [b_and, zk_one hl, b_0] at e
    simpa using e
  · intro h
    refine b_ext (fun i _ => ?_)
    rw [b_and, zk_one hl, b_0]
    by_cases e : i = l
    · subst e; simp [h]
    · simp [e]
theorem zk_both {a b : Nat} (ha : a < 32) (hb : b < 32) (m : Int32) : (m &&& (((1 : Int32) <<< (nI a &&& 31)) ||| ((1 : Int32) <<< (nI b &&& 31)))) = (((1 : Int32) <<< (nI a &&& 31)) ||| ((1 : Int32) <<< (nI b &&& 31))) ↔ (bt m a = true ∧ bt m b = true) := by
  constructor
  · intro h
    have e1 := congrArg (fun z => bt z a) h
    have e2 := congrArg (fun z => bt z b) h
    rw [b_and, b_or, zk_one ha, zk_one hb] at e1 e2
    simp at e1 e2
    exact ⟨e1, e2⟩
  · intro h
    refine b_ext (fun i _ => ?_)
    rw [b_and, b_or, zk_one ha, zk_one hb]
    by_cases e : i = a
    · subst e; simp [h.1]
    · by_cases e' : i = b
      · subst e'; simp [h.2]
      · simp [e, e']
theorem zk_b1 : ∀ j, j < 32 → bt 1 j = decide (j = 0) := by decide +kernel
theorem zk_bit (x : Int32) {i : Nat} (hi : i < 32) : ((x >>> (nI i &&& 31)) &&& 1) = if bt x i = true then 1 else 0 := by
  refine b_ext (fun j hj => ?_)
  rw [b_and, zk_b1 j hj, b_sshr i hi x hj]
  by_cases e : j = 0
  · subst e
    cases h : bt x i
    · simp [hi, h, b_0]
    · simp [hi, h]
      exact (zk_b1 0 (by omega)).symm ▸ rfl
  · cases h : bt x i
    · simp [e, b_0]
    · simp [e]
      exact (zk_b1 j hj).trans (decide_eq_false e)
theorem zk_off {l : Nat} (hl : l < 32) (m : Int32) (i : Nat) : bt (m &&& (((1 : Int32) <<< (nI l &&& 31)) ^^^ (-1))) i = (bt m i && !decide (i = l)) := by
  rw [b_and, b_xor, zk_one hl]
  rcases Nat.lt_or_ge i 32 with h | h
  · rw [b_m1 i h]; simp
  · rw [b_big h]; simp
theorem zk_on {l : Nat} (hl : l < 32) (m : Int32) (i : Nat) : bt (m ||| ((1 : Int32) <<< (nI l &&& 31))) i = (bt m i || decide (i = l)) := by
  rw [b_or, zk_one hl]
theorem zk_ainj {x y : Int32} (h : bt x = bt y) : x = y := b_ext (fun i _ => congrFun h i)
theorem zk_nbt {x : Bool} (h : ¬ x = true) : x = false := by cases x <;> simp_all
theorem zk_nbf {x : Bool} (h : ¬ x = false) : x = true := by cases x <;> simp_all
/-! counting -/
def zk_cn (S : Nat → Bool) : Nat → Nat
  | 0 => 0
  | k + 1 => zk_cn S k + (if S k = true then 1 else 0)
theorem zk_cn_b (S : Nat → Bool) : ∀ k, zk_cn S k ≤ k := by
  intro k
  induction k with
  | zero => exact Nat.le_refl 0
  | succ k ih => simp only [zk_cn]; split <;> omega
theorem zk_cn_le {S T : Nat → Bool} (h : ∀ x, S x = true → T x = true) : ∀ k, zk_cn S k ≤ zk_cn T k := by
  intro k
  induction k with
  | zero => exact Nat.le_refl 0
  | succ k ih =>
    simp only [zk_cn]
    have := h k
    by_cases e : S k = true
    · rw [if_pos e, if_pos (this e)]; omega
    · rw [if_neg e]; omega
theorem zk_cn_lt {S T : Nat → Bool} (h : ∀ x, S x = true → T x = true) {x : Nat} (hs : S x = false) (ht : T x = true) : ∀ k, x < k → zk_cn S k < zk_cn T k := by
  intro k
  induction k with
  | zero => intro hx; omega
  | succ k ih =>
    intro hx
    simp only [zk_cn]
    by_cases e : x = k
    · subst e
      have := zk_cn_le h x
      rw [if_neg (by rw [hs]; decide), if_pos ht]; omega
    · have h1 := ih (by omega)
      have := h k
      by_cases e : S k = true
      · rw [if_pos e, if_pos (this e)]; omega
      · rw [if_neg e]; omega
theorem zk_cn_ext {S T : Nat → Bool} : ∀ k, (∀ x, x < k → S x = T x) → zk_cn S k = zk_cn T k := by
  intro k
  induction k with
  | zero => intro _; rfl
  | succ k ih =>
    intro h
    simp only [zk_cn]
    rw [ih (fun x hx => h x (by omega)), h k (by omega)]
theorem zk_cn_z {S : Nat → Bool} {n : Nat} (h : ∀ x, n ≤ x → S x = false) : ∀ k, n ≤ k → zk_cn S k = zk_cn S n := by
  intro k
  induction k with
  | zero => intro hk; have : n = 0 := by omega
            subst this; rfl
  | succ k ih =>
    intro hk
    by_cases e : n = k + 1
    · subst e; rfl
    · simp only [zk_cn]
      rw [ih (by omega), h k (by omega)]; rfl
/-! iterating a step that only adds, and only below 28 -/
def zk_it (f : (Nat → Bool) → Nat → Bool) : Nat → (Nat → Bool) → Nat → Bool
  | 0, S => S
  | d + 1, S => zk_it f d (f S)
theorem zk_it_s (f : (Nat → Bool) → Nat → Bool) : ∀ d S, zk_it f d (f S) = f (zk_it f d S) := by
  intro d
  induction d with
  | zero => intro S; rfl
  | succ d ih => intro S; exact ih (f S)
theorem zk_it_fix {f : (Nat → Bool) → Nat → Bool} {S : Nat → Bool} (h : f S = S) : ∀ d, zk_it f d S = S := by
  intro d
  induction d with
  | zero => rfl
  | succ d ih => show zk_it f d (f S) = S; rw [h, ih]
def zk_ext (f : (Nat → Bool) → Nat → Bool) : Prop := ∀ S x, S x = true → f S x = true
def zk_mon (f : (Nat → Bool) → Nat → Bool) : Prop := ∀ S T : Nat → Bool, (∀ x, S x = true → T x = true) → ∀ x, f S x = true → f T x = true
def zk_loc (N : Nat) (f : (Nat → Bool) → Nat → Bool) : Prop := ∀ S x, N ≤ x → f S x = S x
theorem zk_grow {f : (Nat → Bool) → Nat → Bool} {N : Nat} (he : zk_ext f) (hl : zk_loc N f) (S : Nat → Bool) : f S = S ∨ zk_cn S N < zk_cn (f S) N := by
  by_cases h : ∀ x, x < N → f S x = S x
  · refine Or.inl (funext fun x => ?_)
    rcases Nat.lt_or_ge x N with hx | hx
    · exact h x hx
    · exact hl S x hx
  · refine Or.inr ?_
    have ⟨x, hx⟩ := Classical.not_forall.mp h
    have ⟨h1, h2⟩ := Classical.not_imp.mp hx
    have hs : S x = false := by
      cases e : S x
      · rfl
      · exact absurd ((he S x e).trans e.symm) h2
    have ht : f S x = true := by
      cases e : f S x
      · exact absurd (e.trans hs.symm) h2
      · rfl
    exact zk_cn_lt (he S) hs ht N h1
theorem zk_fix_or {f : (Nat → Bool) → Nat → Bool} {N : Nat} (he : zk_ext f) (hl : zk_loc N f) (S : Nat → Bool) : ∀ d, f (zk_it f d S) = zk_it f d S ∨ d ≤ zk_cn (zk_it f d S) N := by
  intro d
  induction d with
  | zero => exact Or.inr (Nat.zero_le _)
  | succ d ih =>
    have e : zk_it f (d + 1) S = f (zk_it f d S) := zk_it_s f d S
    rw [e]
    rcases ih with h | h
    · exact Or.inl (by rw [h, h])
    · rcases zk_grow he hl (zk_it f d S) with g | g
      · exact Or.inl (by rw [g, g])
      · exact Or.inr (by omega)
theorem zk_fix {f : (Nat → Bool) → Nat → Bool} {N : Nat} (he : zk_ext f) (hl : zk_loc N f) (S : Nat → Bool) {d : Nat} (hd : N < d) : f (zk_it f d S) = zk_it f d S := by
  rcases zk_fix_or he hl S d with h | h
  · exact h
  · have := zk_cn_b (zk_it f d S) N
    omega
theorem zk_it_more {f : (Nat → Bool) → Nat → Bool} {N : Nat} (he : zk_ext f) (hl : zk_loc N f) (S : Nat → Bool) {d : Nat} (hd : N < d) : zk_it f (d + 1) S = zk_it f d S :=
  (zk_it_s f d S).trans (zk_fix he hl S hd)
theorem zk_it_ext {f : (Nat → Bool) → Nat → Bool} (he : zk_ext f) : ∀ d, zk_ext (zk_it f d) := by
  intro d
  induction d with
  | zero => intro S x h; exact h
  | succ d ih => intro S x h; exact ih (f S) x (he S x h)
theorem zk_it_mon {f : (Nat → Bool) → Nat → Bool} (hm : zk_mon f) : ∀ d, zk_mon (zk_it f d) := by
  intro d
  induction d with
  | zero => intro S T h x hx; exact h x hx
  | succ d ih => intro S T h; exact ih (f S) (f T) (hm S T h)
theorem zk_it_loc {f : (Nat → Bool) → Nat → Bool} {N : Nat} (hl : zk_loc N f) : ∀ d, zk_loc N (zk_it f d) := by
  intro d
  induction d with
  | zero => intro S x _; rfl
  | succ d ih => intro S x h; exact (ih (f S) x h).trans (hl S x h)
/-! one step at a term, a pass, the closure -/
def zk_st (k : Int32) (a b t : Nat) (S : Nat → Bool) : Nat → Bool := fun x => S x || (S a && S b && decide (x = t)) || (S t && decide (k = 1) && (decide (x = a) || decide (x = b))) || (S t && decide (k = 2) && S a && decide (x = b))
theorem zk_st_ext (k : Int32) (a b t : Nat) : zk_ext (zk_st k a b t) := by
  intro S x h
  simp [zk_st, h]
theorem zk_st_mon (k : Int32) (a b t : Nat) : zk_mon (zk_st k a b t) := by
  intro S T h x
  have ha := h a
  have hb := h b
  have ht := h t
  have hx := h x
  simp only [zk_st, Bool.or_eq_true, Bool.and_eq_true]
  rintro (((h1 | ⟨⟨h1, h2⟩, h3⟩) | ⟨⟨h1, h2⟩, h3⟩) | ⟨⟨⟨h1, h2⟩, h3⟩, h4⟩)
  · exact Or.inl (Or.inl (Or.inl (hx h1)))
  · exact Or.inl (Or.inl (Or.inr ⟨⟨ha h1, hb h2⟩, h3⟩))
  · exact Or.inl (Or.inr ⟨⟨ht h1, h2⟩, h3⟩)
  · exact Or.inr ⟨⟨⟨ht h1, h2⟩, ha h3⟩, h4⟩
theorem zk_st_loc {k : Int32} {a b t N : Nat} (ha : a < N) (hb : b < N) (ht : t < N) : zk_loc N (zk_st k a b t) := by
  intro S x hx
  have h1 : x ≠ a := by omega
  have h2 : x ≠ b := by omega
  have h3 : x ≠ t := by omega
  simp [zk_st, h1, h2, h3]
def zk_ok (n : Nat) (K A B : Nat → Int32) : Prop := (8 ≤ n ∧ n ≤ 28) ∧ (∀ t, t < 8 → K t = 0) ∧ (∀ t, 8 ≤ t → t < n → (K t = 1 ∨ K t = 2) ∧ ∃ a b, a < n ∧ b < n ∧ A t = nI a ∧ B t = nI b)
def zk_s (K A B : Nat → Int32) (t : Nat) (S : Nat → Bool) : Nat → Bool := zk_st (K t) (A t).toNatClampNeg (B t).toNatClampNeg t S
def zk_q (K A B : Nat → Int32) : Nat → Nat → (Nat → Bool) → Nat → Bool
  | 0, _, S => S
  | d + 1, t, S => zk_q K A B d (t + 1) (zk_s K A B t S)
theorem zk_q_ext (K A B : Nat → Int32) : ∀ d t, zk_ext (zk_q K A B d t) := by
  intro d
  induction d with
  | zero => intro t S x h; exact h
  | succ d ih => intro t S x h; exact ih (t + 1) _ x (zk_st_ext _ _ _ _ S x h)
theorem zk_q_mon (K A B : Nat → Int32) : ∀ d t, zk_mon (zk_q K A B d t) := by
  intro d
  induction d with
  | zero => intro t S T h x hx; exact h x hx
  | succ d ih => intro t S T h; exact ih (t + 1) _ _ (zk_st_mon _ _ _ _ S T h)
theorem zk_q_loc {n : Nat} {K A B : Nat → Int32} (ok : zk_ok n K A B) : ∀ d t, 8 ≤ t → t + d = n → zk_loc n (zk_q K A B d t) := by
  intro d
  induction d with
  | zero => intro t _ _ S x _; rfl
  | succ d ih =>
    intro t h8 ht S x hx
    have e := ih (t + 1) (by omega) (by omega) (zk_s K A B t S) x hx
    refine e.trans ?_
    obtain ⟨_, a, b, ha, hb, eA, eB⟩ := ok.2.2 t h8 (by omega)
    have := ok.1
    show zk_st _ _ _ t S x = S x
    rw [eA, eB, nI_clamp (by omega), nI_clamp (by omega)]
    exact zk_st_loc ha hb (by omega) S x hx
def zk_p (n : Nat) (K A B : Nat → Int32) (S : Nat → Bool) : Nat → Bool := zk_q K A B (n - 8) 8 S
def zk_cl (n : Nat) (K A B : Nat → Int32) (S : Nat → Bool) : Nat → Bool := zk_it (zk_p n K A B) 29 S
theorem zk_p_loc {n : Nat} {K A B : Nat → Int32} (ok : zk_ok n K A B) : zk_loc n (zk_p n K A B) :=
  zk_q_loc ok (n - 8) 8 (Nat.le_refl 8) (by have := ok.1; omega)
theorem zk_p_ext (n : Nat) (K A B : Nat → Int32) : zk_ext (zk_p n K A B) := zk_q_ext K A B _ _
theorem zk_p_mon (n : Nat) (K A B : Nat → Int32) : zk_mon (zk_p n K A B) := zk_q_mon K A B _ _
theorem zk_cl_ext (n : Nat) (K A B : Nat → Int32) : zk_ext (zk_cl n K A B) := zk_it_ext (zk_p_ext n K A B) 29
theorem zk_cl_mon (n : Nat) (K A B : Nat → Int32) : zk_mon (zk_cl n K A B) := zk_it_mon (zk_p_mon n K A B) 29
theorem zk_cl_loc {n : Nat} {K A B : Nat → Int32} (ok : zk_ok n K A B) : zk_loc n (zk_cl n K A B) := zk_it_loc (zk_p_loc ok) 29
theorem zk_cl_fix {n : Nat} {K A B : Nat → Int32} (ok : zk_ok n K A B) (S : Nat → Bool) : zk_cl n K A B (zk_cl n K A B S) = zk_cl n K A B S :=
  zk_it_fix (zk_fix (zk_p_ext n K A B) (zk_p_loc ok) S (by have := ok.1; omega)) 29
theorem zk_cl_30 {n : Nat} {K A B : Nat → Int32} (ok : zk_ok n K A B) (S : Nat → Bool) : zk_it (zk_p n K A B) 30 S = zk_cl n K A B S :=
  zk_it_more (zk_p_ext n K A B) (zk_p_loc ok) S (by have := ok.1; omega)
/-- leaving t out changes the closure exactly where the closure without t lacks t -/
theorem zk_spare {n : Nat} {K A B : Nat → Int32} (ok : zk_ok n K A B) {H : Nat → Bool} {t : Nat} (ht : H t = true) : zk_cl n K A B (fun i => H i && !decide (i = t)) = zk_cl n K A B H ↔ zk_cl n K A B (fun i => H i && !decide (i = t)) t = true := by
  constructor
  · intro h
    rw [h]
    exact zk_cl_ext n K A B H t ht
  · intro h
    have lo : ∀ x, zk_cl n K A B (fun i => H i && !decide (i = t)) x = true → zk_cl n K A B H x = true :=
      zk_cl_mon n K A B _ _ (fun x hx => by simp at hx; exact hx.1)
    have hi : ∀ x, zk_cl n K A B H x = true → zk_cl n K A B (fun i => H i && !decide (i = t)) x = true := by
      intro x hx
      rw [← zk_cl_fix ok]
      refine zk_cl_mon n K A B H _ (fun y hy => ?_) x hx
      by_cases e : y = t
      · rw [e]; exact h
      · exact zk_cl_ext n K A B _ y (by simp [hy, e])
    funext x
    exact Bool.eq_iff_iff.mpr ⟨lo x, hi x⟩
end
section
/-! the component against the pure picture -/
theorem xk_isT {post : Int32 → Prop} {n : Nat} (hn : n ≤ 28) {m : Int32} {K A B : Nat → Int32} {j : Nat} (hj : j < n) (h : post 1) : wpX_isTerm post (nI n, m, K, A, B) (nI j) := by
  unfold wpX_isTerm
  dsimp only
  exact br_f (nI_pos (by omega)) (br_f (nI_ge hj (by omega)) h)
theorem xk_isF {post : Int32 → Prop} {n : Nat} {m : Int32} {K A B : Nat → Int32} {p : Int32} (hp : p < 0 ∨ nI n ≤ p) (h : post 0) : wpX_isTerm post (nI n, m, K, A, B) p := by
  unfold wpX_isTerm
  dsimp only
  rcases hp with e | e
  · exact br_t e h
  · exact br_c (fun _ => h) (fun _ => br_t e h)
theorem xk_has {post : Int32 → Prop} {m : Int32} {l : Nat} (hl : l < 32) (h : post (if bt m l = true then 1 else 0)) : wpX_has post m (nI l) := by
  unfold wpX_has
  rw [zk_has0 hl m]
  cases e : bt m l
  · rw [e] at h
    exact br_t rfl h
  · rw [e] at h
    exact br_f (by decide) h
theorem xk_step {post : Int32 → Prop} {T m : Int32} {K A B : Nat → Int32} {s : Int32} {t a b : Nat} (ht : t < 28) (ha : a < 28) (hb : b < 28) (eA : A t = nI a) (eB : B t = nI b) (hK : K t = 1 ∨ K t = 2) (H : ∀ s', bt s' = zk_st (K t) a b t (bt s) → post s') : wpX_withStepAt post (T, m, K, A, B) s (nI t) := by
  unfold wpX_withStepAt
  dsimp only
  rw [nI_clamp (by omega), eA, eB]
  have hi : vp_in (nI t) 28 := vp_in_nI ht (by omega)
  refine ⟨hi, fun x3 e3 => ⟨hi, fun x4 e4 x5 e5 => ?_⟩⟩
  subst e3 e4 e5
  rw [zk_both (by omega) (by omega)]
  refine br_c (fun h => H _ ?_) (fun h => xk_has (by omega) ?_)
  · funext x
    rw [zk_on (by omega)]
    simp only [zk_st, h.1, h.2]
    rcases hK with e | e <;> rw [e] <;> by_cases ex : x = t <;> by_cases ea : x = a <;> by_cases eb : x = b <;> simp_all
  · cases et : bt s t
    · refine br_t rfl (H _ ?_)
      funext x
      simp only [zk_st, et]
      have : (bt s a && bt s b) = false := by
        cases e1 : bt s a <;> cases e2 : bt s b <;> simp_all
      simp [this]
    · refine br_f (by decide) ⟨hi, br_c (fun k1 => H _ ?_) (fun k1 => ?_)⟩
      · funext x
        rw [b_or, b_or, zk_one (by omega), zk_one (by omega)]
        simp only [zk_st, et, k1]
        have : (bt s a && bt s b) = false := by
          cases e1 : bt s a <;> cases e2 : bt s b <;> simp_all
        simp [this]
      · have k2 : K t = 2 := hK.resolve_left k1
        rw [zk_has0 (by omega)]
        refine br_c (fun h0 => H _ ?_) (fun h0 => H _ ?_)
        · funext x
          simp [zk_st, k2, h0]
        · funext x
          have h1 := zk_nbf h0
          have h2 : bt s b = false := zk_nbt (fun z => h ⟨h1, z⟩)
          rw [zk_on (by omega)]
          simp [zk_st, k2, h1, h2, et]
theorem xk_in {n : Nat} {K A B : Nat → Int32} (ok : zk_ok n K A B) {m : Int32} {post : Int32 → Prop} {J4 : Int32 → Int32 → Prop} {x3 x4 : Int32} : ∀ (d t : Nat) (s : Int32), 8 ≤ t → t + d = n → ∀ fuel, d < fuel → (∀ s', bt s' = zk_q K A B d t (bt s) → ((s' = x4 → post s') ∧ (¬ s' = x4 → ∀ y, y = x3 + 1 → J4 s' y))) → wX_knownFrom_17 post J4 x3 x4 (nI n) m K A B fuel s (nI t) := by
  have hn := ok.1
  intro d
  induction d with
  | zero =>
    intro t s h8 ht fuel hf H
    obtain ⟨f, rfl⟩ : ∃ f, fuel = f + 1 := ⟨fuel - 1, by omega⟩
    rw [wX_knownFrom_17]
    exact br_t (nI_le (by omega) (by omega)) (H s rfl)
  | succ d ih =>
    intro t s h8 ht fuel hf H
    obtain ⟨f, rfl⟩ : ∃ f, fuel = f + 1 := ⟨fuel - 1, by omega⟩
    rw [wX_knownFrom_17]
    obtain ⟨hK, a, b, ha, hb, eA, eB⟩ := ok.2.2 t h8 (by omega)
    refine br_f (nI_ge (by omega) (by omega)) (xk_step (by omega) (Nat.lt_of_lt_of_le ha hn.2) (Nat.lt_of_lt_of_le hb hn.2) eA eB hK (fun s' hs' => nm_r (nI_1 t) (ih (t + 1) s' (by omega) (by omega) f (by omega) (fun s'' hs'' => H s'' ?_))))
    rw [hs'', hs']
    show _ = zk_q K A B d (t + 1) (zk_s K A B t (bt s))
    rw [zk_s, eA, eB, nI_clamp (by omega), nI_clamp (by omega)]
theorem xk_out {n : Nat} {K A B : Nat → Int32} (ok : zk_ok n K A B) {m : Int32} {post : Int32 → Prop} : ∀ (d r : Nat) (s : Int32), r + d = 29 → ∀ fuel, d < fuel → (∀ s', bt s' = zk_it (zk_p n K A B) d (bt s) → post s') → wX_knownFrom_4 post (nI n) m K A B fuel s (nI r) := by
  have hn := ok.1
  intro d
  induction d with
  | zero =>
    intro r s hr fuel hf H
    obtain ⟨f, rfl⟩ : ∃ f, fuel = f + 1 := ⟨fuel - 1, by omega⟩
    rw [wX_knownFrom_4]
    exact br_t (nI_lt (a := 28) (by omega) (by omega)) (H s rfl)
  | succ d ih =>
    intro r s hr fuel hf H
    obtain ⟨f, rfl⟩ : ∃ f, fuel = f + 1 := ⟨fuel - 1, by omega⟩
    rw [wX_knownFrom_4]
    refine br_f (nI_nlt (b := r) (a := 28) (by omega) (by omega)) ⟨n - 8 + 1, xk_in ok (n - 8) 8 s (by omega) (by omega) _ (by omega) (fun s' hs' => br_c (fun e => H s' ?_) (fun _ => nm_r (nI_1 r) (ih (r + 1) s' (by omega) f (by omega) (fun s'' hs'' => H s'' ?_))))⟩
    · subst e
      exact (zk_it_fix (f := zk_p n K A B) hs'.symm (d + 1)).symm
    · rw [hs'', hs']
      rfl
theorem xk_from {n : Nat} {K A B : Nat → Int32} (ok : zk_ok n K A B) {m : Int32} {post : Int32 → Prop} {s : Int32} (H : ∀ s', bt s' = zk_cl n K A B (bt s) → post s') : wpX_knownFrom post (nI n, m, K, A, B) s := by
  unfold wpX_knownFrom
  dsimp only
  exact ⟨30, xk_out ok 29 0 s (by omega) 30 (by omega) H⟩
theorem xk_size4 {m : Int32} {post : Int32 → Prop} (H : post (nI (zk_cn (bt m) 28))) : ∀ (d i : Nat), i + d = 28 → ∀ fuel, d < fuel → wX_sizeOf_4 post m fuel (nI (zk_cn (bt m) i)) (nI i) := by
  intro d
  induction d with
  | zero =>
    intro i hi fuel hf
    obtain ⟨f, rfl⟩ : ∃ f, fuel = f + 1 := ⟨fuel - 1, by omega⟩
    rw [wX_sizeOf_4]
    have e : i = 28 := by omega
    subst e
    exact br_t (nI_le (a := 28) (by omega) (by omega)) H
  | succ d ih =>
    intro i hi fuel hf
    obtain ⟨f, rfl⟩ : ∃ f, fuel = f + 1 := ⟨fuel - 1, by omega⟩
    rw [wX_sizeOf_4]
    refine br_f (nI_ge (b := 28) (by omega) (by omega)) (xk_has (by omega) ?_)
    have h := ih (i + 1) (by omega) f (by omega)
    cases e : bt m i
    · have ec : zk_cn (bt m) (i + 1) = zk_cn (bt m) i := by simp [zk_cn, e]
      rw [ec] at h
      exact br_t rfl (nm_r (nI_1 i) h)
    · have ec : zk_cn (bt m) (i + 1) = zk_cn (bt m) i + 1 := by simp [zk_cn, e]
      rw [ec] at h
      exact br_f (by decide) (nm_r (nI_1 _) (nm_r (nI_1 i) h))
theorem xk_size {m : Int32} {post : Int32 → Prop} (H : post (nI (zk_cn (bt m) 28))) : wpX_sizeOf post m :=
  ⟨29, xk_size4 H 28 0 (by omega) 29 (by omega)⟩
theorem xk_count {n : Nat} {K A B : Nat → Int32} (ok : zk_ok n K A B) {m : Int32} {post : Int32 → Prop} (H : post (nI (zk_cn (zk_cl n K A B (bt m)) 28))) : wpX_countKnown post (nI n, m, K, A, B) := by
  unfold wpX_countKnown
  dsimp only
  refine xk_from ok (fun s' hs' => xk_size ?_)
  rw [hs']
  exact H
theorem zk_nb (c : Prop) (h : Decidable c) : narrow .boolean (.int (if c then 1 else 0)) = .int (if c then 1 else 0) := by
  by_cases e : c
  · rw [if_pos e]; rfl
  · rw [if_neg e]; rfl
theorem xk_give {n : Nat} {K A B : Nat → Int32} (ok : zk_ok n K A B) {m : Int32} {post : Int32 → Prop} {s : Int32} {g : Nat} (hg : g < 32) (H : post (if zk_cl n K A B (fun i => bt m i || bt s i) g = true then 1 else 0)) : wpX_wouldGive post (nI n, m, K, A, B) s (nI g) := by
  unfold wpX_wouldGive
  dsimp only
  have e0 : bt (m ||| s) = fun i => bt m i || bt s i := funext (b_or m s)
  refine xk_from ok (fun s' hs' => xk_has hg ⟨zk_nb _ _, ?_⟩)
  rw [hs', e0]
  exact H
/-! leak, atomsFor, spare, findOrMake: the loops -/
def zk_lk (G : Nat → Bool) : Nat → Nat → Nat
  | 0, t => t
  | d + 1, t => if G t = true then t else zk_lk G d (t + 1)
def zk_G (n : Nat) (K A B : Nat → Int32) (m : Int32) (g t : Nat) : Bool := zk_cl n K A B (fun i => bt m i || decide (i = t)) g
theorem xk_leak {n : Nat} {K A B : Nat → Int32} (ok : zk_ok n K A B) {m : Int32} {post : Int32 → Prop} {g : Nat} (hg : g < 28) : ∀ (d t : Nat), t + d = g → ∀ fuel, d < fuel → post (nI (zk_lk (zk_G n K A B m g) d t)) → wX_leak_24 post (nI g) (nI n) m K A B fuel (nI t) := by
  intro d
  induction d with
  | zero =>
    intro t ht fuel hf H
    obtain ⟨f, rfl⟩ : ∃ f, fuel = f + 1 := ⟨fuel - 1, by omega⟩
    rw [wX_leak_24]
    have e : t = g := by omega
    subst e
    exact br_t (nI_le (by omega) (by omega)) H
  | succ d ih =>
    intro t ht fuel hf H
    obtain ⟨f, rfl⟩ : ∃ f, fuel = f + 1 := ⟨fuel - 1, by omega⟩
    rw [wX_leak_24]
    refine br_f (nI_ge (by omega) (by omega)) (xk_give ok (by omega) ?_)
    have e0 : (fun i => bt m i || bt ((1 : Int32) <<< (nI t &&& 31)) i) = fun i => bt m i || decide (i = t) := funext (fun i => by rw [zk_one (by omega)])
    have hv : zk_cl n K A B (fun i => bt m i || decide (i = t)) g = zk_G n K A B m g t := rfl
    rw [e0, hv]
    simp only [zk_lk] at H
    by_cases e : zk_G n K A B m g t = true
    · rw [if_pos e] at H ⊢
      exact br_f (by decide) H
    · rw [if_neg e] at H ⊢
      exact br_t rfl (nm_r (nI_1 t) (ih (t + 1) (by omega) f (by omega) H))
theorem zk_sml {s i : Nat} (hs : s < 256) (hi : 8 ≤ i) : bt (nI s) i = false := by
  show (BitVec.ofNat 32 s).getLsbD i = false
  rw [BitVec.getLsbD_ofNat, Nat.testBit_lt_two_pow (Nat.lt_of_lt_of_le hs (show 256 ≤ 2 ^ i from Nat.pow_le_pow_right (n := 2) (by omega) hi)), Bool.and_false]
def zk_af (G : Nat → Bool) : Nat → Nat → Nat → Nat
  | 0, _, l => l
  | d + 1, s, l => if l ≤ zk_cn (bt (nI s)) 8 then zk_af G d (s + 1) l else if G s = true then zk_af G d (s + 1) (zk_cn (bt (nI s)) 8) else zk_af G d (s + 1) l
def zk_F (n : Nat) (K A B : Nat → Int32) (m : Int32) (g s : Nat) : Bool := zk_cl n K A B (fun i => bt m i || bt (nI s) i) g
theorem xk_atoms {n : Nat} {K A B : Nat → Int32} (ok : zk_ok n K A B) {m : Int32} {post : Int32 → Prop} {g : Nat} (hg : g < 28) : ∀ (d s l : Nat), s + d = 256 → l ≤ 8 → ∀ fuel, d < fuel → post (nI (zk_af (zk_F n K A B m g) d s l)) → wX_atomsFor_15 post (nI g) (nI n) m K A B fuel (nI l) (nI s) := by
  intro d
  induction d with
  | zero =>
    intro s l hs hl fuel hf H
    obtain ⟨f, rfl⟩ : ∃ f, fuel = f + 1 := ⟨fuel - 1, by omega⟩
    rw [wX_atomsFor_15]
    exact br_t (nI_le (a := 256) (by omega) (by omega)) H
  | succ d ih =>
    intro s l hs hl fuel hf H
    obtain ⟨f, rfl⟩ : ∃ f, fuel = f + 1 := ⟨fuel - 1, by omega⟩
    rw [wX_atomsFor_15]
    refine br_f (nI_ge (b := 256) (by omega) (by omega)) (xk_size ?_)
    have e0 : zk_cn (bt (nI s)) 28 = zk_cn (bt (nI s)) 8 := zk_cn_z (fun x hx => zk_sml (by omega) hx) 28 (by omega)
    have hb := zk_cn_b (bt (nI s)) 8
    rw [e0]
    simp only [zk_af] at H
    generalize zk_cn (bt (nI s)) 8 = z at hb H ⊢
    by_cases c : l ≤ z
    · rw [if_pos c] at H
      exact br_t (nI_le c (by omega)) (nm_r (nI_1 s) (ih (s + 1) l (by omega) hl f (by omega) H))
    · rw [if_neg c] at H
      refine br_f (nI_ge (by omega) (by omega)) (xk_give ok (by omega) ?_)
      have hv : zk_cl n K A B (fun i => bt m i || bt (nI s) i) g = zk_F n K A B m g s := rfl
      rw [hv]
      by_cases e : zk_F n K A B m g s = true
      · rw [if_pos e] at H ⊢
        exact br_f (by decide) (nm_r (nI_1 s) (ih (s + 1) z (by omega) hb f (by omega) H))
      · rw [if_neg e] at H ⊢
        exact br_t rfl (nm_r (nI_1 s) (ih (s + 1) l (by omega) hl f (by omega) H))
def zk_P (n : Nat) (K A B : Nat → Int32) (m : Int32) (t : Nat) : Bool := bt m t && zk_cl n K A B (fun i => bt m i && !decide (i = t)) t
theorem xk_spare {n : Nat} {K A B : Nat → Int32} (ok : zk_ok n K A B) {m ks : Int32} (hks : bt ks = zk_cl n K A B (bt m)) {post : Int32 → Prop} (H : post (nI (zk_cn (zk_P n K A B m) n))) : ∀ (d t : Nat), t + d = n → ∀ fuel, d < fuel → wX_spare_13 post ks (nI n) m K A B fuel (nI (zk_cn (zk_P n K A B m) t)) (nI t) := by
  have hn := ok.1
  intro d
  induction d with
  | zero =>
    intro t ht fuel hf
    obtain ⟨f, rfl⟩ : ∃ f, fuel = f + 1 := ⟨fuel - 1, by omega⟩
    rw [wX_spare_13]
    have e : t = n := by omega
    subst e
    exact br_t (nI_le (by omega) (by omega)) H
  | succ d ih =>
    intro t ht fuel hf
    obtain ⟨f, rfl⟩ : ∃ f, fuel = f + 1 := ⟨fuel - 1, by omega⟩
    rw [wX_spare_13]
    refine br_f (nI_ge (by omega) (by omega)) (xk_has (by omega) ?_)
    have h := ih (t + 1) (by omega) f (by omega)
    cases e : bt m t
    · have ec : zk_cn (zk_P n K A B m) (t + 1) = zk_cn (zk_P n K A B m) t := by simp [zk_cn, zk_P, e]
      rw [ec] at h
      exact br_t rfl (nm_r (nI_1 t) h)
    · refine br_f (by decide) (xk_from ok (fun s' hs' => ?_))
      have e0 : bt (m &&& (((1 : Int32) <<< (nI t &&& 31)) ^^^ (-1))) = fun i => bt m i && !decide (i = t) := funext (zk_off (by omega) m)
      rw [e0] at hs'
      have sp := zk_spare ok (H := bt m) e
      refine br_c (fun c => ?_) (fun c => ?_)
      · have hp : zk_cl n K A B (fun i => bt m i && !decide (i = t)) t = true := sp.mp (by rw [← hs', c, hks])
        have ec : zk_cn (zk_P n K A B m) (t + 1) = zk_cn (zk_P n K A B m) t + 1 := by simp [zk_cn, zk_P, e, hp]
        rw [ec] at h
        exact nm_r (nI_1 _) (nm_r (nI_1 t) h)
      · have hp : ¬ zk_cl n K A B (fun i => bt m i && !decide (i = t)) t = true := fun z => c (zk_ainj (by rw [hs', hks]; exact sp.mpr z))
        have ec : zk_cn (zk_P n K A B m) (t + 1) = zk_cn (zk_P n K A B m) t := by simp [zk_cn, zk_P, e, hp]
        rw [ec] at h
        exact nm_r (nI_1 t) h
def zk_fd (K A B : Nat → Int32) (k a b : Int32) : Nat → Nat → Nat
  | 0, t => t
  | d + 1, t => if K t = k ∧ A t = a ∧ B t = b then t else zk_fd K A B k a b d (t + 1)
theorem zk_fd_le (K A B : Nat → Int32) (k a b : Int32) : ∀ d t, zk_fd K A B k a b d t ≤ t + d := by
  intro d
  induction d with
  | zero => intro t; exact Nat.le_refl t
  | succ d ih =>
    intro t
    simp only [zk_fd]
    have := ih (t + 1)
    split <;> omega
theorem xk_find {n : Nat} {K A B : Nat → Int32} (hn : n ≤ 28) {m k a b : Int32} {post : Int32 → SX → Prop} : ∀ (d t : Nat), t + d = n → ∀ fuel, d < fuel → (zk_fd K A B k a b d t < n → post (nI (zk_fd K A B k a b d t)) (nI n, m, K, A, B)) → (zk_fd K A B k a b d t = n → n < 28 → post (nI n) (nI (n + 1), m, upd K n k, upd A n a, upd B n b)) → (zk_fd K A B k a b d t = n → n = 28 → post (-1) (nI n, m, K, A, B)) → wX_findOrMake_22 post k a b (nI n) m K A B fuel (nI t) := by
  intro d
  induction d with
  | zero =>
    intro t ht fuel hf H1 H2 H3
    obtain ⟨f, rfl⟩ : ∃ f, fuel = f + 1 := ⟨fuel - 1, by omega⟩
    rw [wX_findOrMake_22]
    dsimp only
    have e : t = n := by omega
    subst e
    rw [nI_clamp (by omega)]
    refine br_t (nI_le (by omega) (by omega)) (pk_lt t 28 (fun c => ?_) (fun c => H3 rfl (by omega)))
    have hi : vp_in (nI t) 28 := vp_in_nI c (by omega)
    exact ⟨hi, nm_e ⟨hi, nm_e ⟨hi, nm_e (nm_r (nI_1 t) (H2 rfl c))⟩⟩⟩
  | succ d ih =>
    intro t ht fuel hf H1 H2 H3
    obtain ⟨f, rfl⟩ : ∃ f, fuel = f + 1 := ⟨fuel - 1, by omega⟩
    rw [wX_findOrMake_22]
    dsimp only
    rw [nI_clamp (n := t) (by omega)]
    have hi : vp_in (nI t) 28 := vp_in_nI (by omega) (by omega)
    simp only [zk_fd] at H1 H2 H3
    by_cases c : K t = k ∧ A t = a ∧ B t = b
    · rw [if_pos c] at H1
      exact br_f (nI_ge (by omega) (by omega)) ⟨hi, br_t c.1 ⟨hi, br_t c.2.1 ⟨hi, br_t c.2.2 (H1 (by omega))⟩⟩⟩
    · rw [if_neg c] at H1 H2 H3
      have h := ih (t + 1) (by omega) f (by omega) H1 H2 H3
      exact br_f (nI_ge (by omega) (by omega)) ⟨hi, br_c (fun c1 => ⟨hi, br_c (fun c2 => ⟨hi, br_c (fun c3 => absurd ⟨c1, c2, c3⟩ c) (fun _ => nm_r (nI_1 t) h)⟩) (fun _ => nm_r (nI_1 t) h)⟩) (fun _ => nm_r (nI_1 t) h)⟩
end
section
/-! the reference against the pure picture -/
def zk_kb (C : Nat → Int32) : Nat → Bool := fun i => decide (i < 28) && !decide (C i = 0)
theorem zk_v1 : vp_nar .boolean 1 = 1 := rfl
theorem zk_v0 : vp_nar .boolean 0 = 0 := rfl
theorem zk_kb_t {C : Nat → Int32} {a : Nat} (ha : a < 28) : C a = 0 ↔ zk_kb C a = false := by
  simp [zk_kb, ha]
theorem zk_kb_on {C : Nat → Int32} {a : Nat} (ha : a < 28) : zk_kb (upd C a (vp_nar .boolean 1)) = fun x => zk_kb C x || decide (x = a) := by
  funext x
  rw [zk_v1]
  by_cases e : x = a
  · subst e
    simp [zk_kb, pk_us, ha]
  · simp [zk_kb, pk_un e, e]
theorem zk_kb_off {C : Nat → Int32} {a : Nat} : zk_kb (upd C a (vp_nar .boolean 0)) = fun x => zk_kb C x && !decide (x = a) := by
  funext x
  rw [zk_v0]
  by_cases e : x = a
  · subst e
    simp [zk_kb, pk_us]
  · simp [zk_kb, pk_un e, e]
theorem yk_bF {post : Int32 → Prop} {n : Nat} (hn : n ≤ 28) {ch : Int32} {K A B H C : Nat → Int32} {j : Nat} (hj : j < n) (h : post 0) : wpY_bad post (nI n, ch, K, A, B, H, C) (nI j) := by
  unfold wpY_bad
  dsimp only
  exact br_f (nI_pos (by omega)) (br_t (nI_lt hj (by omega)) h)
theorem yk_bT {post : Int32 → Prop} {n : Nat} {ch : Int32} {K A B H C : Nat → Int32} {p : Int32} (hp : p < 0 ∨ nI n ≤ p) (h : post 1) : wpY_bad post (nI n, ch, K, A, B, H, C) p := by
  unfold wpY_bad
  dsimp only
  rcases hp with e | e
  · exact br_t e h
  · exact br_c (fun _ => h) (fun _ => br_f (Int32.not_lt.mpr e) h)
theorem yk_learn {post : SY → Prop} {T ch : Int32} {K A B H C : Nat → Int32} {a : Nat} (ha : a < 28) (h : ∀ (ch' : Int32) (C' : Nat → Int32), zk_kb C' = (fun x => zk_kb C x || decide (x = a)) → (ch' = 0 → ch = 0 ∧ zk_kb C' = zk_kb C) → post (T, ch', K, A, B, H, C')) : wpY_learn post (T, ch, K, A, B, H, C) (nI a) := by
  unfold wpY_learn
  dsimp only
  rw [nI_clamp (by omega)]
  have hi : vp_in (nI a) 28 := vp_in_nI ha (by omega)
  refine ⟨hi, br_c (fun e => ⟨hi, nm_e (h 1 _ (zk_kb_on ha) (fun z => absurd z (by decide)))⟩) (fun e => ⟨hi, nm_e (h ch _ (zk_kb_on ha) (fun z => ⟨z, ?_⟩))⟩)⟩
  rw [zk_kb_on ha]
  rw [zk_kb_t ha] at e
  have e' := zk_nbf e
  funext x
  by_cases c : x = a
  · subst c; simp [e']
  · simp [c]
theorem yk_76 {post : SY → Prop} {T ch : Int32} {K A B H C : Nat → Int32} {t a b : Nat} (ht : t < 28) (ha : a < 28) (hb : b < 28) (hK : ¬ K t ≤ 0) (h : ∀ (ch' : Int32) (C' : Nat → Int32), zk_kb C' = (fun x => zk_kb C x || (zk_kb C a && zk_kb C b && decide (x = t))) → (ch' = 0 → ch = 0 ∧ zk_kb C' = zk_kb C) → post (T, ch', K, A, B, H, C')) : wY_apply_76 post (nI t) (nI a) (nI b) T ch K A B H C := by
  unfold wY_apply_76
  rw [nI_clamp (by omega), nI_clamp (by omega), nI_clamp (by omega), zk_kb_t ha, zk_kb_t hb]
  have h1 : vp_in (nI t) 28 := vp_in_nI ht (by omega)
  have h2 : vp_in (nI a) 28 := vp_in_nI ha (by omega)
  have h3 : vp_in (nI b) 28 := vp_in_nI hb (by omega)
  refine ⟨h1, br_f hK ⟨h2, br_c (fun e => h ch C ?_ (fun z => ⟨z, rfl⟩)) (fun e => ⟨h3, br_c (fun e' => h ch C ?_ (fun z => ⟨z, rfl⟩)) (fun e' => yk_learn ht (fun ch' C' hc hz => h ch' C' ?_ hz))⟩)⟩⟩
  · funext x
    simp [e]
  · funext x
    simp [e']
  · rw [hc, zk_nbf e, zk_nbf e']
    funext x
    simp
theorem yk_43 {post : SY → Prop} {T ch : Int32} {K A B H C : Nat → Int32} {t a b : Nat} (ht : t < 28) (ha : a < 28) (hb : b < 28) (hK : K t = 1 ∨ K t = 2) (h : ∀ (ch' : Int32) (C' : Nat → Int32), zk_kb C' = (fun x => zk_kb C x || (zk_kb C a && zk_kb C b && decide (x = t)) || (zk_kb C t && decide (K t = 2) && zk_kb C a && decide (x = b))) → (ch' = 0 → ch = 0 ∧ zk_kb C' = zk_kb C) → post (T, ch', K, A, B, H, C')) : wY_apply_43 post (nI t) (nI a) (nI b) T ch K A B H C := by
  unfold wY_apply_43
  rw [nI_clamp (by omega), nI_clamp (by omega), zk_kb_t ha, zk_kb_t ht]
  have h1 : vp_in (nI t) 28 := vp_in_nI ht (by omega)
  have h2 : vp_in (nI a) 28 := vp_in_nI ha (by omega)
  have hk0 : ¬ K t ≤ 0 := by
    rcases hK with e | e <;> rw [e] <;> decide
  refine ⟨h1, br_c (fun k2 => ⟨h1, br_c (fun e => yk_76 ht ha hb hk0 (fun ch' C' hc hz => h ch' C' ?_ hz)) (fun e => ⟨h2, br_c (fun e' => yk_76 ht ha hb hk0 (fun ch' C' hc hz => h ch' C' ?_ hz)) (fun e' => yk_learn hb (fun ch1 C1 hc1 hz1 => yk_76 ht ha hb hk0 (fun ch' C' hc hz => h ch' C' ?_ (fun z => ⟨(hz1 (hz z).1).1, ?_⟩))))⟩)⟩) (fun k2 => yk_76 ht ha hb hk0 (fun ch' C' hc hz => h ch' C' ?_ hz))⟩
  · rw [hc]
    funext x
    simp [e]
  · rw [hc]
    funext x
    simp [e']
  · rw [hc, hc1]
    have e1 := zk_nbf e
    have e2 := zk_nbf e'
    funext x
    by_cases c : x = t
    · subst c; simp [e1]
    · simp [c, e1, e2, k2]
  · rw [(hz z).2, (hz1 (hz z).1).2]
  · rw [hc]
    funext x
    simp [k2]
theorem yk_apply {post : SY → Prop} {T ch : Int32} {K A B H C : Nat → Int32} {t a b : Nat} (ht : t < 28) (ha : a < 28) (hb : b < 28) (eA : A t = nI a) (eB : B t = nI b) (hK : K t = 1 ∨ K t = 2) (h : ∀ (ch' : Int32) (C' : Nat → Int32), zk_kb C' = zk_st (K t) a b t (zk_kb C) → (ch' = 0 → ch = 0 ∧ zk_kb C' = zk_kb C) → post (T, ch', K, A, B, H, C')) : wpY_apply post (T, ch, K, A, B, H, C) (nI t) := by
  unfold wpY_apply
  dsimp only
  rw [nI_clamp (by omega), eA, eB, zk_kb_t ht]
  have h1 : vp_in (nI t) 28 := vp_in_nI ht (by omega)
  refine ⟨h1, nm_e ⟨h1, nm_e ⟨h1, br_c (fun k1 => ⟨h1, br_c (fun e => yk_43 ht ha hb hK (fun ch' C' hc hz => h ch' C' ?_ hz)) (fun e => yk_learn ha (fun ch1 C1 hc1 hz1 => yk_learn hb (fun ch2 C2 hc2 hz2 => yk_43 ht ha hb hK (fun ch' C' hc hz => h ch' C' ?_ (fun z => ⟨(hz1 (hz2 (hz z).1).1).1, ?_⟩)))))⟩) (fun k1 => yk_43 ht ha hb hK (fun ch' C' hc hz => h ch' C' ?_ hz))⟩⟩⟩
  · rw [hc]
    funext x
    simp [zk_st, e]
  · rw [hc, hc2, hc1]
    have e1 := zk_nbf e
    funext x
    by_cases c : x = t
    · subst c; simp [zk_st, e1]
    · have k2 : ¬ (1 : Int32) = 2 := by decide
      simp [zk_st, c, e1, k1, k2, Bool.or_assoc]
  · rw [(hz z).2, (hz2 (hz z).1).2, (hz1 (hz2 (hz z).1).1).2]
  · rw [hc]
    funext x
    simp [zk_st, k1]
theorem yk_apply0 {post : SY → Prop} {T ch : Int32} {K A B H C : Nat → Int32} {t : Nat} (ht : t < 28) (hK : K t = 0) (h : post (T, ch, K, A, B, H, C)) : wpY_apply post (T, ch, K, A, B, H, C) (nI t) := by
  unfold wpY_apply wY_apply_43 wY_apply_76
  dsimp only
  rw [nI_clamp (by omega), hK]
  have h1 : vp_in (nI t) 28 := vp_in_nI ht (by omega)
  exact ⟨h1, nm_e ⟨h1, nm_e ⟨h1, br_f (by decide) ⟨h1, br_f (by decide) ⟨h1, br_t (by decide) h⟩⟩⟩⟩⟩
theorem yk_pass {n : Nat} {K A B : Nat → Int32} (ok : zk_ok n K A B) {H : Nat → Int32} {post : SY → Prop} {J75 : Int32 → Int32 → Int32 → (Nat → Int32) → (Nat → Int32) → (Nat → Int32) → (Nat → Int32) → (Nat → Int32) → Prop} {x4 : Int32} : ∀ (d t : Nat) (ch : Int32) (C : Nat → Int32), 8 ≤ t → t + d = n → ∀ fuel, d < fuel → (∀ (ch' : Int32) (C' : Nat → Int32), zk_kb C' = zk_q K A B d t (zk_kb C) → (ch' = 0 → ch = 0 ∧ zk_kb C' = zk_kb C) → ∀ y, y = x4 + 1 → J75 y (nI n) ch' K A B H C') → wY_work_97 post J75 x4 fuel (nI t) (nI n) ch K A B H C := by
  have hn := ok.1
  intro d
  induction d with
  | zero =>
    intro t ch C h8 ht fuel hf h
    obtain ⟨f, rfl⟩ : ∃ f, fuel = f + 1 := ⟨fuel - 1, by omega⟩
    rw [wY_work_97]
    exact br_t (nI_le (by omega) (by omega)) (h ch C rfl (fun z => ⟨z, rfl⟩))
  | succ d ih =>
    intro t ch C h8 ht fuel hf h
    obtain ⟨f, rfl⟩ : ∃ f, fuel = f + 1 := ⟨fuel - 1, by omega⟩
    rw [wY_work_97]
    obtain ⟨hK, a, b, ha, hb, eA, eB⟩ := ok.2.2 t h8 (by omega)
    refine br_f (nI_ge (by omega) (by omega)) (yk_apply (by omega) (Nat.lt_of_lt_of_le ha hn.2) (Nat.lt_of_lt_of_le hb hn.2) eA eB hK (fun ch1 C1 hc1 hz1 => nm_r (nI_1 t) (ih (t + 1) ch1 C1 (by omega) (by omega) f (by omega) (fun ch' C' hc hz => h ch' C' ?_ (fun z => ⟨(hz1 (hz z).1).1, ?_⟩)))))
    · rw [hc, hc1]
      show _ = zk_q K A B d (t + 1) (zk_s K A B t (zk_kb C))
      rw [zk_s, eA, eB, nI_clamp (by omega), nI_clamp (by omega)]
    · rw [(hz z).2, (hz1 (hz z).1).2]
theorem yk_pre {n : Nat} {K A B : Nat → Int32} (ok : zk_ok n K A B) {H : Nat → Int32} {post : SY → Prop} {J75 : Int32 → Int32 → Int32 → (Nat → Int32) → (Nat → Int32) → (Nat → Int32) → (Nat → Int32) → (Nat → Int32) → Prop} {x4 ch : Int32} {C : Nat → Int32} {f : Nat} (h : wY_work_97 post J75 x4 f (nI 8) (nI n) ch K A B H C) : ∀ (d t : Nat), t + d = 8 → wY_work_97 post J75 x4 (f + d) (nI t) (nI n) ch K A B H C := by
  have hn := ok.1
  intro d
  induction d with
  | zero =>
    intro t ht
    have e : t = 8 := by omega
    subst e
    exact h
  | succ d ih =>
    intro t ht
    rw [← Nat.add_assoc, wY_work_97]
    exact br_f (nI_ge (by omega) (by omega)) (yk_apply0 (by omega) (ok.2.1 t (by omega)) (nm_r (nI_1 t) (ih (t + 1) (by omega))))
theorem yk_75 {n : Nat} {K A B : Nat → Int32} (ok : zk_ok n K A B) {H : Nat → Int32} {post : SY → Prop} : ∀ (d r : Nat) (ch : Int32) (C : Nat → Int32), r + d = 30 → ∀ fuel, d < fuel → (ch = 0 → zk_p n K A B (zk_kb C) = zk_kb C) → (∀ (ch' : Int32) (C' : Nat → Int32), zk_kb C' = zk_it (zk_p n K A B) d (zk_kb C) → post (nI n, ch', K, A, B, H, C')) → wY_work_75 post fuel (nI r) (nI n) ch K A B H C := by
  have hn := ok.1
  intro d
  induction d with
  | zero =>
    intro r ch C hr fuel hf hq h
    obtain ⟨f, rfl⟩ : ∃ f, fuel = f + 1 := ⟨fuel - 1, by omega⟩
    rw [wY_work_75]
    exact br_t (nI_le (a := 30) (by omega) (by omega)) (h ch C rfl)
  | succ d ih =>
    intro r ch C hr fuel hf hq h
    obtain ⟨f, rfl⟩ : ∃ f, fuel = f + 1 := ⟨fuel - 1, by omega⟩
    rw [wY_work_75]
    refine br_f (nI_ge (b := 30) (by omega) (by omega)) (br_c (fun c => h ch C (zk_it_fix (hq c) (d + 1)).symm) (fun c => ⟨n - 8 + 1 + 8, yk_pre ok (yk_pass ok (n - 8) 8 0 C (by omega) (by omega) _ (by omega) (fun ch1 C1 hc1 hz1 => nm_r (nI_1 r) (ih (r + 1) ch1 C1 (by omega) f (by omega) (fun z => ?_) (fun ch' C' hc => h ch' C' ?_)))) 8 0 (by omega)⟩))
    · have e := (hz1 z).2
      rw [e]
      exact hc1.symm.trans e
    · rw [hc, hc1]
      rfl
def zk_wk (p0 p1 p2 : Int32) (H : Nat → Int32) (i : Nat) : Bool := decide (i < 28) && ((!decide (H i = 0) && !decide (nI i = p2)) || decide (nI i = p0) || (decide (i < 8) && decide (((p1 >>> (nI i &&& 31)) &&& 1) = 1)))
theorem zk_nx {C : Nat → Int32} {W : Nat → Bool} {i : Nat} {x : Int32} (h : ∀ j, j < i → (!decide (C j = 0)) = W j) (hi : (!decide (x = 0)) = W i) : ∀ j, j < i + 1 → (!decide (upd C i x j = 0)) = W j := by
  intro j hj
  by_cases e : j = i
  · subst e
    rw [pk_us]
    exact hi
  · rw [pk_un e]
    exact h j (by omega)
theorem yk_start {n : Nat} {K A B : Nat → Int32} (ok : zk_ok n K A B) {H : Nat → Int32} {post : SY → Prop} {p0 p1 p2 ch : Int32} (h : ∀ (ch' : Int32) (C' : Nat → Int32), zk_kb C' = zk_cl n K A B (zk_wk p0 p1 p2 H) → post (nI n, ch', K, A, B, H, C')) : ∀ (d i : Nat) (C : Nat → Int32), i + d = 28 → ∀ fuel, d < fuel → (∀ j, j < i → (!decide (C j = 0)) = zk_wk p0 p1 p2 H j) → wY_work_3 post p0 p1 p2 (nI n) ch fuel (nI i) K A B H C := by
  have hn := ok.1
  intro d
  induction d with
  | zero =>
    intro i C hi fuel hf hq
    obtain ⟨f, rfl⟩ : ∃ f, fuel = f + 1 := ⟨fuel - 1, by omega⟩
    rw [wY_work_3]
    refine br_t (nI_le (a := 28) (by omega) (by omega)) ⟨31, yk_75 ok 30 0 1 C (by omega) 31 (by omega) (fun z => absurd z (by decide)) (fun ch' C' hc => h ch' C' ?_)⟩
    rw [hc, zk_cl_30 ok]
    have e : zk_kb C = zk_wk p0 p1 p2 H := by
      funext j
      by_cases c : j < 28
      · have := hq j (by omega)
        rw [← this]
        simp [zk_kb, c]
      · simp [zk_kb, zk_wk, c]
    rw [e]
  | succ d ih =>
    intro i C hi fuel hf hq
    obtain ⟨f, rfl⟩ : ∃ f, fuel = f + 1 := ⟨fuel - 1, by omega⟩
    rw [wY_work_3]
    dsimp only
    unfold wY_work_32
    rw [nI_clamp (by omega), zk_v0, zk_v1]
    have hin : vp_in (nI i) 28 := vp_in_nI (by omega) (by omega)
    have hi28 : i < 28 := by omega
    have go : ∀ x : Int32, (!decide (x = 0)) = zk_wk p0 p1 p2 H i → wY_work_3 post p0 p1 p2 (nI n) ch f (nI (i + 1)) K A B H (upd C i x) :=
      fun x hx => ih (i + 1) _ (by omega) f (by omega) (zk_nx hq hx)
    have g1 : zk_wk p0 p1 p2 H i = true → ∀ C', C' = upd C i 1 → ∀ y, y = nI i + 1 → wY_work_3 post p0 p1 p2 (nI n) ch f y K A B H C' :=
      fun hw => nm_e (nm_r (nI_1 i) (go 1 (by rw [hw]; decide)))
    have g0 : zk_wk p0 p1 p2 H i = false → ∀ C', C' = upd C i 0 → ∀ y, y = nI i + 1 → wY_work_3 post p0 p1 p2 (nI n) ch f y K A B H C' :=
      fun hw => nm_e (nm_r (nI_1 i) (go 0 (by rw [hw]; decide)))
    have tail : (H i = 0 ∨ nI i = p2) → ((nI i = p0 → (vp_in (nI i) 28 ∧ ∀ C', C' = upd C i 1 → ∀ y, y = nI i + 1 → wY_work_3 post p0 p1 p2 (nI n) ch f y K A B H C')) ∧ (¬ nI i = p0 → ((8 ≤ nI i → (vp_in (nI i) 28 ∧ ∀ C', C' = upd C i 0 → ∀ y, y = nI i + 1 → wY_work_3 post p0 p1 p2 (nI n) ch f y K A B H C')) ∧ (¬ 8 ≤ nI i → ((((p1 >>> (nI i &&& 31)) &&& 1) = 1 → (vp_in (nI i) 28 ∧ ∀ C', C' = upd C i 1 → ∀ y, y = nI i + 1 → wY_work_3 post p0 p1 p2 (nI n) ch f y K A B H C')) ∧ (¬ ((p1 >>> (nI i &&& 31)) &&& 1) = 1 → (vp_in (nI i) 28 ∧ ∀ C', C' = upd C i 0 → ∀ y, y = nI i + 1 → wY_work_3 post p0 p1 p2 (nI n) ch f y K A B H C'))))))) := by
      intro hh
      refine br_c (fun c => ⟨hin, g1 (by simp [zk_wk, hi28, c])⟩) (fun c => pk_le 8 i (fun c8 => ⟨hin, g0 ?_⟩) (fun c8 => br_c (fun cb => ⟨hin, g1 (by simp [zk_wk, hi28, c8, cb])⟩) (fun cb => ⟨hin, g0 ?_⟩)))
      · have : ¬ i < 8 := by omega
        rcases hh with e | e
        · simp [zk_wk, e, c, this]
        · have c' : ¬ p2 = p0 := fun z => c (e.trans z)
          simp [zk_wk, e, c', this]
      · rcases hh with e | e
        · simp [zk_wk, e, c, cb]
        · simp only [zk_wk, e, cb]
          have c' : ¬ p2 = p0 := fun z => c (e.trans z)
          rw [e] at cb
          simp [c', cb]
    refine br_f (nI_ge (b := 28) (by omega) (by omega)) ⟨hin, br_c (fun c => tail (Or.inl c)) (fun c => br_c (fun c2 => tail (Or.inr c2)) (fun c2 => ⟨hin, g1 (by simp [zk_wk, hi28, c, c2])⟩))⟩
theorem yk_work {n : Nat} {K A B : Nat → Int32} (ok : zk_ok n K A B) {H C : Nat → Int32} {post : SY → Prop} {p0 p1 p2 ch : Int32} (h : ∀ (ch' : Int32) (C' : Nat → Int32), zk_kb C' = zk_cl n K A B (zk_wk p0 p1 p2 H) → post (nI n, ch', K, A, B, H, C')) : wpY_work post (nI n, ch, K, A, B, H, C) p0 p1 p2 := by
  unfold wpY_work
  dsimp only
  exact ⟨29, yk_start ok h 28 0 C (by omega) 29 (by omega) (fun j hj => absurd hj (by omega))⟩
end
section
/-! the reference's methods -/
def zk_R (n : Nat) (m : Int32) (K A B H : Nat → Int32) : Prop := zk_ok n K A B ∧ zk_kb H = bt m ∧ ∀ i, n ≤ i → bt m i = false
theorem zk_m1n {i : Nat} (hi : i < 28) : ¬ nI i = -1 := by
  intro e
  have h := nI_pos (n := i) (by omega)
  rw [e] at h
  exact h (by decide)
theorem zk_sh0 {i : Nat} (hi : i < 28) : ¬ (((0 : Int32) >>> (nI i &&& 31)) &&& 1) = 1 := by
  rw [zk_bit 0 (by omega), b_0]
  decide
theorem zk_w0 {n : Nat} {m : Int32} {K A B H : Nat → Int32} (R : zk_R n m K A B H) : zk_wk (-1) 0 (-1) H = bt m := by
  rw [← R.2.1]
  funext i
  by_cases c : i < 28
  · simp [zk_wk, zk_kb, c, zk_m1n c, zk_sh0 c]
  · simp [zk_wk, zk_kb, c]
theorem zk_we {n : Nat} {m : Int32} {K A B H : Nat → Int32} (R : zk_R n m K A B H) {e : Nat} (he : e < 28) : zk_wk (nI e) 0 (-1) H = fun i => bt m i || decide (i = e) := by
  rw [← R.2.1]
  funext i
  by_cases c : i < 28
  · have q : nI i = nI e ↔ i = e := nI_eq (by omega) (by omega)
    simp [zk_wk, zk_kb, c, zk_m1n c, zk_sh0 c, q]
  · have q : ¬ i = e := by omega
    simp [zk_wk, zk_kb, c, q]
theorem zk_wa {n : Nat} {m : Int32} {K A B H : Nat → Int32} (R : zk_R n m K A B H) {s : Nat} (hs : s < 256) : zk_wk (-1) (nI s) (-1) H = fun i => bt m i || bt (nI s) i := by
  rw [← R.2.1]
  funext i
  by_cases c : i < 28
  · by_cases c8 : i < 8
    · simp only [zk_wk, zk_kb]
      rw [zk_bit (nI s) (by omega)]
      cases eb : bt (nI s) i
      · simp [c, zk_m1n c]
      · simp [c, c8]
    · have := zk_sml hs (i := i) (by omega)
      simp [zk_wk, zk_kb, c, c8, zk_m1n c, this]
  · have := zk_sml hs (i := i) (by omega)
    simp [zk_wk, zk_kb, c, this]
theorem zk_ww {n : Nat} {m : Int32} {K A B H : Nat → Int32} (R : zk_R n m K A B H) {t : Nat} (ht : t < 28) : zk_wk (-1) 0 (nI t) H = fun i => bt m i && !decide (i = t) := by
  rw [← R.2.1]
  funext i
  by_cases c : i < 28
  · have q : nI i = nI t ↔ i = t := nI_eq (by omega) (by omega)
    simp [zk_wk, zk_kb, c, zk_m1n c, zk_sh0 c, q]
  · simp [zk_wk, zk_kb, c]
theorem yk_count4 {n : Nat} (hn : n ≤ 28) {ch : Int32} {K A B H C : Nat → Int32} {post : Int32 → Prop} (h : post (nI (zk_cn (zk_kb C) n))) : ∀ (d i : Nat), i + d = n → ∀ fuel, d < fuel → wY_count_4 post (nI n) ch K A B H C fuel (nI (zk_cn (zk_kb C) i)) (nI i) := by
  intro d
  induction d with
  | zero =>
    intro i hi fuel hf
    obtain ⟨f, rfl⟩ : ∃ f, fuel = f + 1 := ⟨fuel - 1, by omega⟩
    rw [wY_count_4]
    have e : i = n := by omega
    subst e
    exact br_t (nI_le (by omega) (by omega)) h
  | succ d ih =>
    intro i hi fuel hf
    obtain ⟨f, rfl⟩ : ∃ f, fuel = f + 1 := ⟨fuel - 1, by omega⟩
    rw [wY_count_4]
    dsimp only
    rw [nI_clamp (by omega), zk_kb_t (show i < 28 by omega)]
    have g := ih (i + 1) (by omega) f (by omega)
    refine br_f (nI_ge (by omega) (by omega)) ⟨vp_in_nI (by omega) (by omega), br_c (fun e => ?_) (fun e => ?_)⟩
    · have ec : zk_cn (zk_kb C) (i + 1) = zk_cn (zk_kb C) i := by simp [zk_cn, e]
      rw [ec] at g
      exact nm_r (nI_1 i) g
    · have e' := zk_nbf e
      have ec : zk_cn (zk_kb C) (i + 1) = zk_cn (zk_kb C) i + 1 := by simp [zk_cn, e']
      rw [ec] at g
      exact nm_r (nI_1 _) (nm_r (nI_1 i) g)
theorem yk_count {n : Nat} (hn : n ≤ 28) {ch : Int32} {K A B H C : Nat → Int32} {post : Int32 → Prop} (h : post (nI (zk_cn (zk_kb C) n))) : wpY_count post (nI n, ch, K, A, B, H, C) := by
  unfold wpY_count
  dsimp only
  exact ⟨n + 1, yk_count4 hn h n 0 (by omega) (n + 1) (by omega)⟩
theorem yk_known {n : Nat} {m : Int32} {K A B H : Nat → Int32} (R : zk_R n m K A B H) {ch : Int32} {C : Nat → Int32} {post : Int32 → SY → Prop} (h : ∀ (ch' : Int32) (C' : Nat → Int32), post (nI (zk_cn (zk_cl n K A B (bt m)) n)) (nI n, ch', K, A, B, H, C')) : wpY_known post (nI n, ch, K, A, B, H, C) := by
  unfold wpY_known
  dsimp only
  refine yk_work R.1 (fun ch' C' hc => yk_count R.1.1.2 ?_)
  rw [hc, zk_w0 R]
  exact h ch' C'
theorem yk_get {n : Nat} {C : Nat → Int32} {g : Nat} (hg : g < 28) {S : Nat → Bool} (hc : zk_kb C = S) {P Q : Prop} (h1 : S g = true → Q) (h0 : S g = false → P) : vp_in (nI g) 28 ∧ ((C (nI g).toNatClampNeg = 0 → P) ∧ (¬ C (nI g).toNatClampNeg = 0 → Q)) := by
  rw [nI_clamp (by omega), zk_kb_t hg, hc]
  exact ⟨vp_in_nI hg (by omega), br_c h0 (fun e => h1 (zk_nbf e))⟩
theorem yk_knows {n : Nat} {m : Int32} {K A B H : Nat → Int32} (R : zk_R n m K A B H) {ch : Int32} {C : Nat → Int32} {post : Int32 → SY → Prop} {g : Nat} (hg : g < n) (h : ∀ (ch' : Int32) (C' : Nat → Int32), post (if zk_cl n K A B (bt m) g = true then 1 else 0) (nI n, ch', K, A, B, H, C')) : wpY_knows post (nI n, ch, K, A, B, H, C) (nI g) := by
  have hn := R.1.1
  unfold wpY_knows
  dsimp only
  refine yk_bF hn.2 hg (br_t rfl (yk_work R.1 (fun ch' C' hc => ?_)))
  rw [zk_w0 R] at hc
  have q := h ch' C'
  refine yk_get (n := n) (by omega) hc (fun e => ?_) (fun e => ?_)
  · rw [if_pos e] at q; exact q
  · rw [if_neg (by rw [e]; decide)] at q; exact q
theorem yk_would {n : Nat} {m : Int32} {K A B H : Nat → Int32} (R : zk_R n m K A B H) {ch : Int32} {C : Nat → Int32} {post : Int32 → SY → Prop} {g t : Nat} (hg : g < n) (ht : t < n) (h : ∀ (ch' : Int32) (C' : Nat → Int32), post (if zk_G n K A B m g t = true then 1 else 0) (nI n, ch', K, A, B, H, C')) : wpY_would post (nI n, ch, K, A, B, H, C) (nI t) (nI g) := by
  have hn := R.1.1
  unfold wpY_would
  dsimp only
  refine yk_bF hn.2 ht (br_t rfl (yk_bF hn.2 hg (br_t rfl (yk_work R.1 (fun ch' C' hc => ?_)))))
  rw [zk_we R (show t < 28 by omega)] at hc
  have q := h ch' C'
  refine yk_get (n := n) (by omega) hc (fun e => ?_) (fun e => ?_)
  · rw [if_pos (show zk_G n K A B m g t = true from e)] at q; exact q
  · have e' : zk_G n K A B m g t = false := e
    rw [if_neg (by rw [e']; decide)] at q; exact q
theorem yk_leak {n : Nat} {m : Int32} {K A B H : Nat → Int32} (R : zk_R n m K A B H) {post : Int32 → SY → Prop} {g : Nat} (hg : g < n) : ∀ (d t : Nat) (ch : Int32) (C : Nat → Int32), t + d = g → ∀ fuel, d < fuel → (∀ (ch' : Int32) (C' : Nat → Int32), post (nI (zk_lk (zk_G n K A B m g) d t)) (nI n, ch', K, A, B, H, C')) → wY_leak_24 post (nI g) fuel (nI t) (nI n) ch K A B H C := by
  have hn := R.1.1
  intro d
  induction d with
  | zero =>
    intro t ch C ht fuel hf h
    obtain ⟨f, rfl⟩ : ∃ f, fuel = f + 1 := ⟨fuel - 1, by omega⟩
    rw [wY_leak_24]
    have e : t = g := by omega
    subst e
    have hG : zk_G n K A B m t t = true := zk_cl_ext n K A B _ t (by simp)
    refine br_f (nI_ge (by omega) (by omega)) (yk_would R hg hg (fun ch' C' => ?_))
    rw [if_pos hG]
    exact br_t rfl (h ch' C')
  | succ d ih =>
    intro t ch C ht fuel hf h
    obtain ⟨f, rfl⟩ : ∃ f, fuel = f + 1 := ⟨fuel - 1, by omega⟩
    rw [wY_leak_24]
    simp only [zk_lk] at h
    refine br_f (nI_ge (by omega) (by omega)) (yk_would R hg (by omega) (fun ch' C' => ?_))
    by_cases e : zk_G n K A B m g t = true
    · rw [if_pos e] at h ⊢
      exact br_t rfl (h ch' C')
    · rw [if_neg e] at h ⊢
      exact br_f (by decide) (nm_r (nI_1 t) (ih (t + 1) ch' C' (by omega) f (by omega) h))
theorem yk_ones4 {m : Int32} {post : Int32 → Prop} (h : post (nI (zk_cn (bt m) 8))) : ∀ (d i : Nat), i + d = 8 → ∀ fuel, d < fuel → wY_ones_4 post m fuel (nI (zk_cn (bt m) i)) (nI i) := by
  intro d
  induction d with
  | zero =>
    intro i hi fuel hf
    obtain ⟨f, rfl⟩ : ∃ f, fuel = f + 1 := ⟨fuel - 1, by omega⟩
    rw [wY_ones_4]
    have e : i = 8 := by omega
    subst e
    exact br_t (nI_le (a := 8) (by omega) (by omega)) h
  | succ d ih =>
    intro i hi fuel hf
    obtain ⟨f, rfl⟩ : ∃ f, fuel = f + 1 := ⟨fuel - 1, by omega⟩
    rw [wY_ones_4]
    dsimp only
    have g := ih (i + 1) (by omega) f (by omega)
    rw [zk_bit m (by omega)]
    refine br_f (nI_ge (b := 8) (by omega) (by omega)) (nm_r (e' := nI (zk_cn (bt m) (i + 1))) ?_ (nm_r (nI_1 i) g))
    cases e : bt m i
    · simp [zk_cn, e]
    · simp [zk_cn, e, nI_1]
theorem yk_ones {m : Int32} {post : Int32 → Prop} (h : post (nI (zk_cn (bt m) 8))) : wpY_ones post m :=
  ⟨9, yk_ones4 h 8 0 (by omega) 9 (by omega)⟩
theorem yk_atoms {n : Nat} {m : Int32} {K A B H : Nat → Int32} (R : zk_R n m K A B H) {post : Int32 → SY → Prop} {g : Nat} (hg : g < n) : ∀ (d s l : Nat) (ch : Int32) (C : Nat → Int32), s + d = 256 → l ≤ 8 → ∀ fuel, d < fuel → (∀ (ch' : Int32) (C' : Nat → Int32), post (nI (zk_af (zk_F n K A B m g) d s l)) (nI n, ch', K, A, B, H, C')) → wY_atomsFor_15 post (nI g) fuel (nI l) (nI s) (nI n) ch K A B H C := by
  have hn := R.1.1
  intro d
  induction d with
  | zero =>
    intro s l ch C hs hl fuel hf h
    obtain ⟨f, rfl⟩ : ∃ f, fuel = f + 1 := ⟨fuel - 1, by omega⟩
    rw [wY_atomsFor_15]
    exact br_t (nI_le (a := 256) (by omega) (by omega)) (h ch C)
  | succ d ih =>
    intro s l ch C hs hl fuel hf h
    obtain ⟨f, rfl⟩ : ∃ f, fuel = f + 1 := ⟨fuel - 1, by omega⟩
    rw [wY_atomsFor_15]
    refine br_f (nI_ge (b := 256) (by omega) (by omega)) (yk_ones ?_)
    have hb := zk_cn_b (bt (nI s)) 8
    simp only [zk_af] at h
    generalize zk_cn (bt (nI s)) 8 = z at hb h ⊢
    by_cases c : l ≤ z
    · simp only [if_pos c] at h
      exact br_t (nI_le c (by omega)) (nm_r (nI_1 s) (ih (s + 1) l ch C (by omega) hl f (by omega) h))
    · simp only [if_neg c] at h
      refine br_f (nI_ge (by omega) (by omega)) (yk_work R.1 (fun ch' C' hc => ?_))
      rw [zk_wa R (show s < 256 by omega)] at hc
      refine yk_get (n := n) (by omega) hc (fun e => ?_) (fun e => ?_)
      · have e' : zk_F n K A B m g s = true := e
        simp only [if_pos e'] at h
        exact nm_r (nI_1 s) (ih (s + 1) z ch' C' (by omega) hb f (by omega) h)
      · have e' : ¬ zk_F n K A B m g s = true := by
          have e'' : zk_F n K A B m g s = false := e
          rw [e'']; decide
        simp only [if_neg e'] at h
        exact nm_r (nI_1 s) (ih (s + 1) l ch' C' (by omega) hl f (by omega) h)
theorem yk_spare {n : Nat} {m : Int32} {K A B H : Nat → Int32} (R : zk_R n m K A B H) {post : Int32 → SY → Prop} (h : ∀ (ch' : Int32) (C' : Nat → Int32), post (nI (zk_cn (zk_P n K A B m) n)) (nI n, ch', K, A, B, H, C')) : ∀ (d t : Nat) (ch : Int32) (C : Nat → Int32), t + d = n → ∀ fuel, d < fuel → wY_spare_4 post fuel (nI (zk_cn (zk_P n K A B m) t)) (nI t) (nI n) ch K A B H C := by
  have hn := R.1.1
  intro d
  induction d with
  | zero =>
    intro t ch C ht fuel hf
    obtain ⟨f, rfl⟩ : ∃ f, fuel = f + 1 := ⟨fuel - 1, by omega⟩
    rw [wY_spare_4]
    have e : t = n := by omega
    subst e
    exact br_t (nI_le (by omega) (by omega)) (h ch C)
  | succ d ih =>
    intro t ch C ht fuel hf
    obtain ⟨f, rfl⟩ : ∃ f, fuel = f + 1 := ⟨fuel - 1, by omega⟩
    rw [wY_spare_4]
    refine br_f (nI_ge (by omega) (by omega)) (yk_get (n := n) (by omega) R.2.1 (fun e => ?_) (fun e => ?_))
    · refine yk_work R.1 (fun ch' C' hc => ?_)
      rw [zk_ww R (show t < 28 by omega)] at hc
      have g := ih (t + 1) ch' C' (by omega) f (by omega)
      refine yk_get (n := n) (by omega) hc (fun e' => ?_) (fun e' => ?_)
      · have ec : zk_cn (zk_P n K A B m) (t + 1) = zk_cn (zk_P n K A B m) t + 1 := by simp [zk_cn, zk_P, e, e']
        rw [ec] at g
        exact nm_r (nI_1 _) (nm_r (nI_1 t) g)
      · have ec : zk_cn (zk_P n K A B m) (t + 1) = zk_cn (zk_P n K A B m) t := by simp [zk_cn, zk_P, e, e']
        rw [ec] at g
        exact nm_r (nI_1 t) g
    · have g := ih (t + 1) ch C (by omega) f (by omega)
      have ec : zk_cn (zk_P n K A B m) (t + 1) = zk_cn (zk_P n K A B m) t := by simp [zk_cn, zk_P, e]
      rw [ec] at g
      exact nm_r (nI_1 t) g
theorem yk_find {n : Nat} {K A B : Nat → Int32} (hn : n ≤ 28) {ch k a b : Int32} {H C : Nat → Int32} {post : Int32 → SY → Prop} : ∀ (d t : Nat), t + d = n → ∀ fuel, d < fuel → (zk_fd K A B k a b d t < n → post (nI (zk_fd K A B k a b d t)) (nI n, ch, K, A, B, H, C)) → (zk_fd K A B k a b d t = n → n < 28 → post (nI n) (nI (n + 1), ch, upd K n k, upd A n a, upd B n b, H, C)) → (zk_fd K A B k a b d t = n → n = 28 → post (-1) (nI n, ch, K, A, B, H, C)) → wY_make_22 post k a b (nI n) ch K A B H C fuel (nI t) := by
  intro d
  induction d with
  | zero =>
    intro t ht fuel hf H1 H2 H3
    obtain ⟨f, rfl⟩ : ∃ f, fuel = f + 1 := ⟨fuel - 1, by omega⟩
    rw [wY_make_22]
    dsimp only
    have e : t = n := by omega
    subst e
    rw [nI_clamp (by omega)]
    refine br_t (nI_le (by omega) (by omega)) (pk_eq t 28 (fun c => H3 rfl c) (fun c => ?_))
    have hi : vp_in (nI t) 28 := vp_in_nI (by omega) (by omega)
    have q := H2 rfl (by omega)
    refine ⟨hi, nm_e ⟨hi, nm_e ⟨hi, nm_e (nm_r (nI_1 t) ?_)⟩⟩⟩
    rw [nI_pred]
    exact q
  | succ d ih =>
    intro t ht fuel hf H1 H2 H3
    obtain ⟨f, rfl⟩ : ∃ f, fuel = f + 1 := ⟨fuel - 1, by omega⟩
    rw [wY_make_22]
    dsimp only
    rw [nI_clamp (n := t) (by omega)]
    have hi : vp_in (nI t) 28 := vp_in_nI (by omega) (by omega)
    simp only [zk_fd] at H1 H2 H3
    by_cases c : K t = k ∧ A t = a ∧ B t = b
    · rw [if_pos c] at H1
      exact br_f (nI_ge (by omega) (by omega)) ⟨hi, br_t c.1 ⟨hi, br_t c.2.1 ⟨hi, br_t c.2.2 (H1 (by omega))⟩⟩⟩
    · rw [if_neg c] at H1 H2 H3
      have h := ih (t + 1) (by omega) f (by omega) H1 H2 H3
      exact br_f (nI_ge (by omega) (by omega)) ⟨hi, br_c (fun c1 => ⟨hi, br_c (fun c2 => ⟨hi, br_c (fun c3 => absurd ⟨c1, c2, c3⟩ c) (fun _ => nm_r (nI_1 t) h)⟩) (fun _ => nm_r (nI_1 t) h)⟩) (fun _ => nm_r (nI_1 t) h)⟩
end
section
/-! the relation: the same table of terms, and the mask holds what the row of flags holds -/
def i_Rel (_ : Nat) (u : SX) (v : SY) : Prop := ∃ (n : Nat) (m ch : Int32) (K A B H C : Nat → Int32), u = (nI n, m, K, A, B) ∧ v = (nI n, ch, K, A, B, H, C) ∧ zk_R n m K A B H
theorem i_up {k : Nat} {u : SX} {v : SY} (h : i_Rel k u v) : i_Rel (k + 3) u v := h
theorem ik_re {j n : Nat} {m ch : Int32} {K A B H C : Nat → Int32} (R : zk_R n m K A B H) : i_Rel j (nI n, m, K, A, B) (nI n, ch, K, A, B, H, C) :=
  ⟨n, m, ch, K, A, B, H, C, rfl, rfl, R⟩
theorem i_vc0 : wpX_init (fun u => wpY_init (fun v => i_Rel 0 u v)) := by
  refine ik_re (j := 0) (n := 8) ⟨⟨⟨by omega, by omega⟩, fun _ _ => rfl, fun t h1 h2 => absurd h2 (by omega)⟩, ?_, fun i _ => b_0 i⟩
  funext i
  rw [b_0]
  simp [zk_kb]
theorem ik_ix (p : Int32) {n : Nat} (hn : n ≤ 28) : (p < 0 ∨ nI n ≤ p) ∨ ∃ j : Nat, j < n ∧ p = nI j := by
  rcases pk_ix p (n := n) (by omega) with h | h | h
  · exact Or.inl (Or.inl h)
  · exact Or.inl (Or.inr h)
  · exact Or.inr h
theorem ik_new {n : Nat} {m k : Int32} {K A B H : Nat → Int32} {a b : Nat} (R : zk_R n m K A B H) (hk : k = 1 ∨ k = 2) (ha : a < n) (hb : b < n) (hn : n < 28) : zk_R (n + 1) m (upd K n k) (upd A n (nI a)) (upd B n (nI b)) H := by
  obtain ⟨⟨⟨h8, h28⟩, h0, h1⟩, hH, hm⟩ := R
  refine ⟨⟨⟨by omega, by omega⟩, fun t ht => ?_, fun t ht hn => ?_⟩, hH, fun i hi => hm i (by omega)⟩
  · rw [pk_un (by omega)]
    exact h0 t ht
  · by_cases e : t = n
    · subst e
      rw [pk_us, pk_us, pk_us]
      exact ⟨hk, a, b, by omega, by omega, rfl, rfl⟩
    · rw [pk_un e, pk_un e, pk_un e]
      obtain ⟨hK, a', b', ha', hb', eA, eB⟩ := h1 t ht (by omega)
      exact ⟨hK, a', b', by omega, by omega, eA, eB⟩
theorem xk_makeF {n : Nat} {m k p q : Int32} {K A B : Nat → Int32} {post : Int32 → SX → Prop} (hn : n ≤ 28) (hp : (p < 0 ∨ nI n ≤ p) ∨ (q < 0 ∨ nI n ≤ q)) (h : post (-1) (nI n, m, K, A, B)) : wpX_findOrMake post (nI n, m, K, A, B) k p q := by
  unfold wpX_findOrMake
  dsimp only
  rcases ik_ix p hn with e | ⟨j, hj, rfl⟩
  · exact xk_isF e (br_t rfl h)
  · rcases hp with e | e
    · exact xk_isF e (br_t rfl h)
    · exact xk_isT hn hj (br_f (by decide) (xk_isF e (br_t rfl h)))
theorem yk_makeF {n : Nat} {ch k p q : Int32} {K A B H C : Nat → Int32} {post : Int32 → SY → Prop} (hn : n ≤ 28) (hp : (p < 0 ∨ nI n ≤ p) ∨ (q < 0 ∨ nI n ≤ q)) (h : post (-1) (nI n, ch, K, A, B, H, C)) : wpY_make post (nI n, ch, K, A, B, H, C) k p q := by
  unfold wpY_make
  dsimp only
  rcases ik_ix p hn with e | ⟨j, hj, rfl⟩
  · exact yk_bT e (br_f (by decide) h)
  · rcases hp with e | e
    · exact yk_bT e (br_f (by decide) h)
    · exact yk_bF hn hj (br_t rfl (yk_bT e (br_f (by decide) h)))
theorem ik_make {j n : Nat} {m ch k : Int32} {K A B H C : Nat → Int32} (R : zk_R n m K A B H) (hk : k = 1 ∨ k = 2) (p q : Int32) : wpX_findOrMake (fun r u' => wpY_make (fun r' v' => r' = r ∧ i_Rel j u' v') (nI n, ch, K, A, B, H, C) k p q) (nI n, m, K, A, B) k p q := by
  have hn := R.1.1
  rcases ik_ix p hn.2 with e | ⟨a, ha, rfl⟩
  · exact xk_makeF hn.2 (Or.inl e) (yk_makeF hn.2 (Or.inl e) ⟨rfl, ik_re R⟩)
  rcases ik_ix q hn.2 with e | ⟨b, hb, rfl⟩
  · exact xk_makeF hn.2 (Or.inr e) (yk_makeF hn.2 (Or.inr e) ⟨rfl, ik_re R⟩)
  have le := zk_fd_le K A B k (nI a) (nI b) (n - 8) 8
  have yy : ∀ {P : Int32 → SY → Prop}, (∃ f : Nat, wY_make_22 P k (nI a) (nI b) (nI n) ch K A B H C f 8) → wpY_make P (nI n, ch, K, A, B, H, C) k (nI a) (nI b) := by
    intro P h
    unfold wpY_make
    dsimp only
    exact yk_bF hn.2 ha (br_t rfl (yk_bF hn.2 hb (br_t rfl h)))
  unfold wpX_findOrMake
  dsimp only
  refine xk_isT hn.2 ha (br_f (by decide) (xk_isT hn.2 hb (br_f (by decide) ⟨n - 8 + 1, xk_find hn.2 (n - 8) 8 (by omega) _ (by omega) (fun c => yy ⟨n - 8 + 1, yk_find hn.2 (n - 8) 8 (by omega) _ (by omega) (fun _ => ⟨rfl, ik_re R⟩) (fun c' => absurd c' (by omega)) (fun c' => absurd c' (by omega))⟩) (fun c c2 => yy ⟨n - 8 + 1, yk_find hn.2 (n - 8) 8 (by omega) _ (by omega) (fun c' => absurd c' (by omega)) (fun _ _ => ⟨rfl, ik_re (ik_new R hk ha hb c2)⟩) (fun _ c' => absurd c' (by omega))⟩) (fun c c2 => yy ⟨n - 8 + 1, yk_find hn.2 (n - 8) 8 (by omega) _ (by omega) (fun c' => absurd c' (by omega)) (fun _ c' => absurd c' (by omega)) (fun _ _ => ⟨rfl, ik_re R⟩)⟩)⟩)))
theorem i_vc_pair {k : Nat} {u : SX} {v : SY} (I : i_Rel k u v) (hk : k + 3 ≤ 1536) (v1 : Int32) (v2 : Int32) : wpX_pair (fun r u' => wpY_pair (fun r' v' => r' = r ∧ i_Rel (k + 3) u' v') v v1 v2) u v1 v2 := by
  obtain ⟨n, m, ch, K, A, B, H, C, rfl, rfl, R⟩ := I
  unfold wpX_pair wpY_pair
  exact ik_make R (Or.inl rfl) v1 v2
theorem i_vc_lock {k : Nat} {u : SX} {v : SY} (I : i_Rel k u v) (hk : k + 3 ≤ 1536) (v1 : Int32) (v2 : Int32) : wpX_lock (fun r u' => wpY_lock (fun r' v' => r' = r ∧ i_Rel (k + 3) u' v') v v1 v2) u v1 v2 := by
  obtain ⟨n, m, ch, K, A, B, H, C, rfl, rfl, R⟩ := I
  unfold wpX_lock wpY_lock
  exact ik_make R (Or.inr rfl) v1 v2
theorem ik_cn {n : Nat} {m : Int32} {K A B H : Nat → Int32} (R : zk_R n m K A B H) : nI (zk_cn (zk_cl n K A B (bt m)) n) = nI (zk_cn (zk_cl n K A B (bt m)) 28) := by
  rw [zk_cn_z (S := zk_cl n K A B (bt m)) (n := n) (fun x hx => (zk_cl_loc R.1 (bt m) x hx).trans (R.2.2 x hx)) 28 R.1.1.2]
theorem ik_on {n : Nat} {m : Int32} {K A B H : Nat → Int32} (R : zk_R n m K A B H) {j : Nat} (hj : j < n) : zk_R n (m ||| ((1 : Int32) <<< (nI j &&& 31))) K A B (upd H j (vp_nar .boolean 1)) := by
  have hn := R.1.1
  refine ⟨R.1, ?_, fun i hi => ?_⟩
  · rw [zk_kb_on (by omega), R.2.1]
    funext i
    rw [zk_on (by omega)]
  · rw [zk_on (by omega), R.2.2 i hi]
    have : ¬ i = j := by omega
    simp [this]
theorem ik_off {n : Nat} {m : Int32} {K A B H : Nat → Int32} (R : zk_R n m K A B H) {j : Nat} (hj : j < n) : zk_R n (m &&& (((1 : Int32) <<< (nI j &&& 31)) ^^^ (-1))) K A B (upd H j (vp_nar .boolean 0)) := by
  have hn := R.1.1
  refine ⟨R.1, ?_, fun i hi => ?_⟩
  · rw [zk_kb_off, R.2.1]
    funext i
    rw [zk_off (by omega)]
  · rw [zk_off (by omega), R.2.2 i hi]
    rfl
theorem i_vc_hear {k : Nat} {u : SX} {v : SY} (I : i_Rel k u v) (hk : k + 3 ≤ 1536) (v1 : Int32) : wpX_hear (fun r u' => wpY_hear (fun r' v' => r' = r ∧ i_Rel (k + 3) u' v') v v1) u v1 := by
  obtain ⟨n, m, ch, K, A, B, H, C, rfl, rfl, R⟩ := I
  have hn := R.1.1
  unfold wpX_hear wpY_hear
  dsimp only
  rcases ik_ix v1 hn.2 with e | ⟨j, hj, rfl⟩
  · exact xk_isF e (br_t rfl (yk_bT e (br_f (by decide) ⟨rfl, ik_re R⟩)))
  have R' := ik_on R hj
  refine xk_isT hn.2 hj (br_f (by decide) (nm_e (xk_count R'.1 (yk_bF hn.2 hj (br_t rfl ⟨vp_in_nI (by omega) (by omega), ?_⟩)))))
  rw [nI_clamp (by omega)]
  exact nm_e (yk_known R' (fun ch' C' => ⟨ik_cn R', ik_re R'⟩))
theorem i_vc_unhear {k : Nat} {u : SX} {v : SY} (I : i_Rel k u v) (hk : k + 3 ≤ 1536) (v1 : Int32) : wpX_unhear (fun r u' => wpY_unhear (fun r' v' => r' = r ∧ i_Rel (k + 3) u' v') v v1) u v1 := by
  obtain ⟨n, m, ch, K, A, B, H, C, rfl, rfl, R⟩ := I
  have hn := R.1.1
  unfold wpX_unhear wpY_unhear
  dsimp only
  rcases ik_ix v1 hn.2 with e | ⟨j, hj, rfl⟩
  · exact xk_isF e (br_t rfl (yk_bT e (br_f (by decide) ⟨rfl, ik_re R⟩)))
  have R' := ik_off R hj
  refine xk_isT hn.2 hj (br_f (by decide) (nm_e (xk_count R'.1 (yk_bF hn.2 hj (br_t rfl ⟨vp_in_nI (by omega) (by omega), ?_⟩)))))
  rw [nI_clamp (by omega)]
  exact nm_e (yk_known R' (fun ch' C' => ⟨ik_cn R', ik_re R'⟩))
theorem ik_01 {c : Prop} (h : Decidable c) {P Q : Prop} (hp : ¬ c → P) (hq : c → Q) : ((if c then (1 : Int32) else 0) = 0 → P) ∧ (¬ (if c then (1 : Int32) else 0) = 0 → Q) := by
  by_cases e : c
  · rw [if_pos e]
    exact br_f (by decide) (hq e)
  · rw [if_neg e]
    exact br_t rfl (hp e)
theorem i_vc_knows {k : Nat} {u : SX} {v : SY} (I : i_Rel k u v) (hk : k + 3 ≤ 1536) (v1 : Int32) : wpX_knows (fun r => wpY_knows (fun r' v' => r' = r ∧ i_Rel (k + 3) u v') v v1) u v1 := by
  obtain ⟨n, m, ch, K, A, B, H, C, rfl, rfl, R⟩ := I
  have hn := R.1.1
  rcases ik_ix v1 hn.2 with e | ⟨j, hj, rfl⟩
  · unfold wpX_knows wpY_knows
    dsimp only
    exact xk_isF e (br_t rfl (yk_bT e (br_f (by decide) ⟨rfl, ik_re R⟩)))
  unfold wpX_knows
  dsimp only
  refine xk_isT hn.2 hj (br_f (by decide) (xk_from R.1 (fun s hs => xk_has (by omega) ?_)))
  rw [hs]
  refine ik_01 _ (fun e => yk_knows R hj (fun ch' C' => ⟨?_, ik_re R⟩)) (fun e => yk_knows R hj (fun ch' C' => ⟨?_, ik_re R⟩))
  · rw [if_neg e]
  · rw [if_pos e]
theorem i_vc_known {k : Nat} {u : SX} {v : SY} (I : i_Rel k u v) (hk : k + 3 ≤ 1536) : wpX_known (fun r => wpY_known (fun r' v' => r' = r ∧ i_Rel (k + 3) u v') v) u := by
  obtain ⟨n, m, ch, K, A, B, H, C, rfl, rfl, R⟩ := I
  unfold wpX_known
  dsimp only
  exact xk_count R.1 (yk_known R (fun ch' C' => ⟨ik_cn R, ik_re R⟩))
theorem i_vc_would {k : Nat} {u : SX} {v : SY} (I : i_Rel k u v) (hk : k + 3 ≤ 1536) (v1 : Int32) (v2 : Int32) : wpX_would (fun r => wpY_would (fun r' v' => r' = r ∧ i_Rel (k + 3) u v') v v1 v2) u v1 v2 := by
  obtain ⟨n, m, ch, K, A, B, H, C, rfl, rfl, R⟩ := I
  have hn := R.1.1
  rcases ik_ix v1 hn.2 with e | ⟨t, ht, rfl⟩
  · unfold wpX_would wpY_would
    dsimp only
    exact xk_isF e (br_t rfl (yk_bT e (br_f (by decide) ⟨rfl, ik_re R⟩)))
  rcases ik_ix v2 hn.2 with e | ⟨g, hg, rfl⟩
  · unfold wpX_would wpY_would
    dsimp only
    exact xk_isT hn.2 ht (br_f (by decide) (xk_isF e (br_t rfl (yk_bF hn.2 ht (br_t rfl (yk_bT e (br_f (by decide) ⟨rfl, ik_re R⟩)))))))
  unfold wpX_would
  dsimp only
  refine xk_isT hn.2 ht (br_f (by decide) (xk_isT hn.2 hg (br_f (by decide) (xk_give R.1 (by omega) ?_))))
  have e0 : (fun i => bt m i || bt ((1 : Int32) <<< (nI t &&& 31)) i) = fun i => bt m i || decide (i = t) := funext (fun i => by rw [zk_one (by omega)])
  rw [e0]
  refine ik_01 _ (fun e => yk_would R hg ht (fun ch' C' => ⟨?_, ik_re R⟩)) (fun e => yk_would R hg ht (fun ch' C' => ⟨?_, ik_re R⟩))
  · exact if_neg e
  · exact if_pos e
theorem i_vc_leak {k : Nat} {u : SX} {v : SY} (I : i_Rel k u v) (hk : k + 3 ≤ 1536) (v1 : Int32) : wpX_leak (fun r => wpY_leak (fun r' v' => r' = r ∧ i_Rel (k + 3) u v') v v1) u v1 := by
  obtain ⟨n, m, ch, K, A, B, H, C, rfl, rfl, R⟩ := I
  have hn := R.1.1
  unfold wpX_leak wpY_leak
  dsimp only
  rcases ik_ix v1 hn.2 with e | ⟨g, hg, rfl⟩
  · exact xk_isF e (br_t rfl (yk_bT e (br_f (by decide) ⟨rfl, ik_re R⟩)))
  refine xk_isT hn.2 hg (br_f (by decide) (xk_give R.1 (by omega) ?_))
  have e0 : (fun i => bt m i || bt 0 i) = bt m := funext (fun i => by rw [b_0, Bool.or_false])
  rw [e0]
  refine ik_01 _ (fun e => ⟨g + 1, xk_leak R.1 (by omega) g 0 (by omega) _ (by omega) (yk_bF hn.2 hg (br_t rfl (yk_knows R hg (fun ch' C' => ?_))))⟩) (fun e => yk_bF hn.2 hg (br_t rfl (yk_knows R hg (fun ch' C' => ?_))))
  · rw [if_neg e]
    exact br_f (by decide) ⟨g + 1, yk_leak R hg g 0 ch' C' (by omega) _ (by omega) (fun ch2 C2 => ⟨rfl, ik_re R⟩)⟩
  · rw [if_pos e]
    exact br_t rfl ⟨rfl, ik_re R⟩
theorem i_vc_atomsFor {k : Nat} {u : SX} {v : SY} (I : i_Rel k u v) (hk : k + 3 ≤ 1536) (v1 : Int32) : wpX_atomsFor (fun r => wpY_atomsFor (fun r' v' => r' = r ∧ i_Rel (k + 3) u v') v v1) u v1 := by
  obtain ⟨n, m, ch, K, A, B, H, C, rfl, rfl, R⟩ := I
  have hn := R.1.1
  unfold wpX_atomsFor wpY_atomsFor
  dsimp only
  rcases ik_ix v1 hn.2 with e | ⟨g, hg, rfl⟩
  · exact xk_isF e (br_t rfl (yk_bT e (br_f (by decide) ⟨rfl, ik_re R⟩)))
  exact xk_isT hn.2 hg (br_f (by decide) ⟨257, xk_atoms R.1 (by omega) 256 0 8 (by omega) (by omega) _ (by omega) (yk_bF hn.2 hg (br_t rfl ⟨257, yk_atoms R hg 256 0 8 ch C (by omega) (by omega) _ (by omega) (fun ch' C' => ⟨rfl, ik_re R⟩)⟩))⟩)
theorem i_vc_spare {k : Nat} {u : SX} {v : SY} (I : i_Rel k u v) (hk : k + 3 ≤ 1536) : wpX_spare (fun r => wpY_spare (fun r' v' => r' = r ∧ i_Rel (k + 3) u v') v) u := by
  obtain ⟨n, m, ch, K, A, B, H, C, rfl, rfl, R⟩ := I
  unfold wpX_spare wpY_spare
  dsimp only
  exact xk_from R.1 (fun ks hks => ⟨n + 1, xk_spare R.1 hks ⟨n + 1, yk_spare R (fun ch' C' => ⟨rfl, ik_re R⟩) n 0 ch C (by omega) _ (by omega)⟩ n 0 (by omega) _ (by omega)⟩)
end
