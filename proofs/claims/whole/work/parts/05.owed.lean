/-! the relation: the same table of terms, and the mask holds what the row of flags holds -/
def i_Rel (_ : Nat) (u : SX) (v : SY) : Prop := ∃ (n : Nat) (m ch : Int32) (K A B H C : Nat → Int32), u = (nI n, m, K, A, B) ∧ v = (nI n, ch, K, A, B, H, C) ∧ zk_R n m K A B H
theorem i_up {k : Nat} {u : SX} {v : SY} (h : i_Rel k u v) : i_Rel (k + 3) u v := h
theorem ik_re {j n : Nat} {m ch : Int32} {K A B H C : Nat → Int32} (R : zk_R n m K A B H) : i_Rel j (nI n, m, K, A, B) (nI n, ch, K, A, B, H, C) :=
  ⟨n, m, ch, K, A, B, H, C, rfl, rfl, R⟩
theorem i_vc0 : wpX_init (fun u => wpY_init (fun v => i_Rel 0 u v)) := by
  refine ik_re (j := 0) (n := 8) ⟨⟨⟨by omega, by omega⟩, fun _ _ => rfl, fun t h1 h2 => absurd h2 (by omega)⟩, ?_, fun i _ => b_0 i⟩
  funext i
  rw [b_0]
  simp [zk_kb]
theorem ik_ix (p : Int32) {n : Nat} (hn : n ≤ 28) : (p < 0 ∨ nI n ≤ p) ∨ ∃ j : Nat, j < n ∧ p = nI j := by
  rcases pk_ix p (n := n) (by omega) with h | h | h
  · exact Or.inl (Or.inl h)
  · exact Or.inl (Or.inr h)
  · exact Or.inr h
theorem ik_new {n : Nat} {m k : Int32} {K A B H : Nat → Int32} {a b : Nat} (R : zk_R n m K A B H) (hk : k = 1 ∨ k = 2) (ha : a < n) (hb : b < n) (hn : n < 28) : zk_R (n + 1) m (upd K n k) (upd A n (nI a)) (upd B n (nI b)) H := by
  obtain ⟨⟨⟨h8, h28⟩, h0, h1⟩, hH, hm⟩ := R
  refine ⟨⟨⟨by omega, by omega⟩, fun t ht => ?_, fun t ht hn => ?_⟩, hH, fun i hi => hm i (by omega)⟩
  · rw [pk_un (by omega)]
    exact h0 t ht
  · by_cases e : t = n
    · subst e
      rw [pk_us, pk_us, pk_us]
      exact ⟨hk, a, b, by omega, by omega, rfl, rfl⟩
    · rw [pk_un e, pk_un e, pk_un e]
      obtain ⟨hK, a', b', ha', hb', eA, eB⟩ := h1 t ht (by omega)
      exact ⟨hK, a', b', by omega, by omega, eA, eB⟩
theorem xk_makeF {n : Nat} {m k p q : Int32} {K A B : Nat → Int32} {post : Int32 → SX → Prop} (hn : n ≤ 28) (hp : (p < 0 ∨ nI n ≤ p) ∨ (q < 0 ∨ nI n ≤ q)) (h : post (-1) (nI n, m, K, A, B)) : wpX_findOrMake post (nI n, m, K, A, B) k p q := by
  unfold wpX_findOrMake
  dsimp only
  rcases ik_ix p hn with e | ⟨j, hj, rfl⟩
  · exact xk_isF e (br_t rfl h)
  · rcases hp with e | e
    · exact xk_isF e (br_t rfl h)
    · exact xk_isT hn hj (br_f (by decide) (xk_isF e (br_t rfl h)))
theorem yk_makeF {n : Nat} {ch k p q : Int32} {K A B H C : Nat → Int32} {post : Int32 → SY → Prop} (hn : n ≤ 28) (hp : (p < 0 ∨ nI n ≤ p) ∨ (q < 0 ∨ nI n ≤ q)) (h : post (-1) (nI n, ch, K, A, B, H, C)) : wpY_make post (nI n, ch, K, A, B, H, C) k p q := by
  unfold wpY_make
  dsimp only
  rcases ik_ix p hn with e | ⟨j, hj, rfl⟩
  · exact yk_bT e (br_f (by decide) h)
  · rcases hp with e | e
    · exact yk_bT e (br_f (by decide) h)
    · exact yk_bF hn hj (br_t rfl (yk_bT e (br_f (by decide) h)))
theorem ik_make {j n : Nat} {m ch k : Int32} {K A B H C : Nat → Int32} (R : zk_R n m K A B H) (hk : k = 1 ∨ k = 2) (p q : Int32) : wpX_findOrMake (fun r u' => wpY_make (fun r' v' => r' = r ∧ i_Rel j u' v') (nI n, ch, K, A, B, H, C) k p q) (nI n, m, K, A, B) k p q := by
  have hn := R.1.1
  rcases ik_ix p hn.2 with e | ⟨a, ha, rfl⟩
  · exact xk_makeF hn.2 (Or.inl e) (yk_makeF hn.2 (Or.inl e) ⟨rfl, ik_re R⟩)
  rcases ik_ix q hn.2 with e | ⟨b, hb, rfl⟩
  · exact xk_makeF hn.2 (Or.inr e) (yk_makeF hn.2 (Or.inr e) ⟨rfl, ik_re R⟩)
  have le := zk_fd_le K A B k (nI a) (nI b) (n - 8) 8
  have yy : ∀ {P : Int32 → SY → Prop}, (∃ f : Nat, wY_make_22 P k (nI a) (nI b) (nI n) ch K A B H C f 8) → wpY_make P (nI n, ch, K, A, B, H, C) k (nI a) (nI b) := by
    intro P h
    unfold wpY_make
    dsimp only
    exact yk_bF hn.2 ha (br_t rfl (yk_bF hn.2 hb (br_t rfl h)))
  unfold wpX_findOrMake
  dsimp only
  refine xk_isT hn.2 ha (br_f (by decide) (xk_isT hn.2 hb (br_f (by decide) ⟨n - 8 + 1, xk_find hn.2 (n - 8) 8 (by omega) _ (by omega) (fun c => yy ⟨n - 8 + 1, yk_find hn.2 (n - 8) 8 (by omega) _ (by omega) (fun _ => ⟨rfl, ik_re R⟩) (fun c' => absurd c' (by omega)) (fun c' => absurd c' (by omega))⟩) (fun c c2 => yy ⟨n - 8 + 1, yk_find hn.2 (n - 8) 8 (by omega) _ (by omega) (fun c' => absurd c' (by omega)) (fun _ _ => ⟨rfl, ik_re (ik_new R hk ha hb c2)⟩) (fun _ c' => absurd c' (by omega))⟩) (fun c c2 => yy ⟨n - 8 + 1, yk_find hn.2 (n - 8) 8 (by omega) _ (by omega) (fun c' => absurd c' (by omega)) (fun _ c' => absurd c' (by omega)) (fun _ _ => ⟨rfl, ik_re R⟩)⟩)⟩)))
theorem i_vc_pair {k : Nat} {u : SX} {v : SY} (I : i_Rel k u v) (hk : k + 3 ≤ 1536) (v1 : Int32) (v2 : Int32) : wpX_pair (fun r u' => wpY_pair (fun r' v' => r' = r ∧ i_Rel (k + 3) u' v') v v1 v2) u v1 v2 := by
  obtain ⟨n, m, ch, K, A, B, H, C, rfl, rfl, R⟩ := I
  unfold wpX_pair wpY_pair
  exact ik_make R (Or.inl rfl) v1 v2
theorem i_vc_lock {k : Nat} {u : SX} {v : SY} (I : i_Rel k u v) (hk : k + 3 ≤ 1536) (v1 : Int32) (v2 : Int32) : wpX_lock (fun r u' => wpY_lock (fun r' v' => r' = r ∧ i_Rel (k + 3) u' v') v v1 v2) u v1 v2 := by
  obtain ⟨n, m, ch, K, A, B, H, C, rfl, rfl, R⟩ := I
  unfold wpX_lock wpY_lock
  exact ik_make R (Or.inr rfl) v1 v2
theorem ik_cn {n : Nat} {m : Int32} {K A B H : Nat → Int32} (R : zk_R n m K A B H) : nI (zk_cn (zk_cl n K A B (bt m)) n) = nI (zk_cn (zk_cl n K A B (bt m)) 28) := by
  rw [zk_cn_z (S := zk_cl n K A B (bt m)) (n := n) (fun x hx => (zk_cl_loc R.1 (bt m) x hx).trans (R.2.2 x hx)) 28 R.1.1.2]
theorem ik_on {n : Nat} {m : Int32} {K A B H : Nat → Int32} (R : zk_R n m K A B H) {j : Nat} (hj : j < n) : zk_R n (m ||| ((1 : Int32) <<< (nI j &&& 31))) K A B (upd H j (vp_nar .boolean 1)) := by
  have hn := R.1.1
  refine ⟨R.1, ?_, fun i hi => ?_⟩
  · rw [zk_kb_on (by omega), R.2.1]
    funext i
    rw [zk_on (by omega)]
  · rw [zk_on (by omega), R.2.2 i hi]
    have : ¬ i = j := by omega
    simp [this]
theorem ik_off {n : Nat} {m : Int32} {K A B H : Nat → Int32} (R : zk_R n m K A B H) {j : Nat} (hj : j < n) : zk_R n (m &&& (((1 : Int32) <<< (nI j &&& 31)) ^^^ (-1))) K A B (upd H j (vp_nar .boolean 0)) := by
  have hn := R.1.1
  refine ⟨R.1, ?_, fun i hi => ?_⟩
  · rw [zk_kb_off, R.2.1]
    funext i
    rw [zk_off (by omega)]
  · rw [zk_off (by omega), R.2.2 i hi]
    rfl
theorem i_vc_hear {k : Nat} {u : SX} {v : SY} (I : i_Rel k u v) (hk : k + 3 ≤ 1536) (v1 : Int32) : wpX_hear (fun r u' => wpY_hear (fun r' v' => r' = r ∧ i_Rel (k + 3) u' v') v v1) u v1 := by
  obtain ⟨n, m, ch, K, A, B, H, C, rfl, rfl, R⟩ := I
  have hn := R.1.1
  unfold wpX_hear wpY_hear
  dsimp only
  rcases ik_ix v1 hn.2 with e | ⟨j, hj, rfl⟩
  · exact xk_isF e (br_t rfl (yk_bT e (br_f (by decide) ⟨rfl, ik_re R⟩)))
  have R' := ik_on R hj
  refine xk_isT hn.2 hj (br_f (by decide) (nm_e (xk_count R'.1 (yk_bF hn.2 hj (br_t rfl ⟨vp_in_nI (by omega) (by omega), ?_⟩)))))
  rw [nI_clamp (by omega)]
  exact nm_e (yk_known R' (fun ch' C' => ⟨ik_cn R', ik_re R'⟩))
theorem i_vc_unhear {k : Nat} {u : SX} {v : SY} (I : i_Rel k u v) (hk : k + 3 ≤ 1536) (v1 : Int32) : wpX_unhear (fun r u' => wpY_unhear (fun r' v' => r' = r ∧ i_Rel (k + 3) u' v') v v1) u v1 := by
  obtain ⟨n, m, ch, K, A, B, H, C, rfl, rfl, R⟩ := I
  have hn := R.1.1
  unfold wpX_unhear wpY_unhear
  dsimp only
  rcases ik_ix v1 hn.2 with e | ⟨j, hj, rfl⟩
  · exact xk_isF e (br_t rfl (yk_bT e (br_f (by decide) ⟨rfl, ik_re R⟩)))
  have R' := ik_off R hj
  refine xk_isT hn.2 hj (br_f (by decide) (nm_e (xk_count R'.1 (yk_bF hn.2 hj (br_t rfl ⟨vp_in_nI (by omega) (by omega), ?_⟩)))))
  rw [nI_clamp (by omega)]
  exact nm_e (yk_known R' (fun ch' C' => ⟨ik_cn R', ik_re R'⟩))
theorem ik_01 {c : Prop} (h : Decidable c) {P Q : Prop} (hp : ¬ c → P) (hq : c → Q) : ((if c then (1 : Int32) else 0) = 0 → P) ∧ (¬ (if c then (1 : Int32) else 0) = 0 → Q) := by
  by_cases e : c
  · rw [if_pos e]
    exact br_f (by decide) (hq e)
  · rw [if_neg e]
    exact br_t rfl (hp e)
theorem i_vc_knows {k : Nat} {u : SX} {v : SY} (I : i_Rel k u v) (hk : k + 3 ≤ 1536) (v1 : Int32) : wpX_knows (fun r => wpY_knows (fun r' v' => r' = r ∧ i_Rel (k + 3) u v') v v1) u v1 := by
  obtain ⟨n, m, ch, K, A, B, H, C, rfl, rfl, R⟩ := I
  have hn := R.1.1
  rcases ik_ix v1 hn.2 with e | ⟨j, hj, rfl⟩
  · unfold wpX_knows wpY_knows
    dsimp only
    exact xk_isF e (br_t rfl (yk_bT e (br_f (by decide) ⟨rfl, ik_re R⟩)))
  unfold wpX_knows
  dsimp only
  refine xk_isT hn.2 hj (br_f (by decide) (xk_from R.1 (fun s hs => xk_has (by omega) ?_)))
  rw [hs]
  refine ik_01 _ (fun e => yk_knows R hj (fun ch' C' => ⟨?_, ik_re R⟩)) (fun e => yk_knows R hj (fun ch' C' => ⟨?_, ik_re R⟩))
  · rw [if_neg e]
  · rw [if_pos e]
theorem i_vc_known {k : Nat} {u : SX} {v : SY} (I : i_Rel k u v) (hk : k + 3 ≤ 1536) : wpX_known (fun r => wpY_known (fun r' v' => r' = r ∧ i_Rel (k + 3) u v') v) u := by
  obtain ⟨n, m, ch, K, A, B, H, C, rfl, rfl, R⟩ := I
  unfold wpX_known
  dsimp only
  exact xk_count R.1 (yk_known R (fun ch' C' => ⟨ik_cn R, ik_re R⟩))
theorem i_vc_would {k : Nat} {u : SX} {v : SY} (I : i_Rel k u v) (hk : k + 3 ≤ 1536) (v1 : Int32) (v2 : Int32) : wpX_would (fun r => wpY_would (fun r' v' => r' = r ∧ i_Rel (k + 3) u v') v v1 v2) u v1 v2 := by
  obtain ⟨n, m, ch, K, A, B, H, C, rfl, rfl, R⟩ := I
  have hn := R.1.1
  rcases ik_ix v1 hn.2 with e | ⟨t, ht, rfl⟩
  · unfold wpX_would wpY_would
    dsimp only
    exact xk_isF e (br_t rfl (yk_bT e (br_f (by decide) ⟨rfl, ik_re R⟩)))
  rcases ik_ix v2 hn.2 with e | ⟨g, hg, rfl⟩
  · unfold wpX_would wpY_would
    dsimp only
    exact xk_isT hn.2 ht (br_f (by decide) (xk_isF e (br_t rfl (yk_bF hn.2 ht (br_t rfl (yk_bT e (br_f (by decide) ⟨rfl, ik_re R⟩)))))))
  unfold wpX_would
  dsimp only
  refine xk_isT hn.2 ht (br_f (by decide) (xk_isT hn.2 hg (br_f (by decide) (xk_give R.1 (by omega) ?_))))
  have e0 : (fun i => bt m i || bt ((1 : Int32) <<< (nI t &&& 31)) i) = fun i => bt m i || decide (i = t) := funext (fun i => by rw [zk_one (by omega)])
  rw [e0]
  refine ik_01 _ (fun e => yk_would R hg ht (fun ch' C' => ⟨?_, ik_re R⟩)) (fun e => yk_would R hg ht (fun ch' C' => ⟨?_, ik_re R⟩))
  · exact if_neg e
  · exact if_pos e
theorem i_vc_leak {k : Nat} {u : SX} {v : SY} (I : i_Rel k u v) (hk : k + 3 ≤ 1536) (v1 : Int32) : wpX_leak (fun r => wpY_leak (fun r' v' => r' = r ∧ i_Rel (k + 3) u v') v v1) u v1 := by
  obtain ⟨n, m, ch, K, A, B, H, C, rfl, rfl, R⟩ := I
  have hn := R.1.1
  unfold wpX_leak wpY_leak
  dsimp only
  rcases ik_ix v1 hn.2 with e | ⟨g, hg, rfl⟩
  · exact xk_isF e (br_t rfl (yk_bT e (br_f (by decide) ⟨rfl, ik_re R⟩)))
  refine xk_isT hn.2 hg (br_f (by decide) (xk_give R.1 (by omega) ?_))
  have e0 : (fun i => bt m i || bt 0 i) = bt m := funext (fun i => by rw [b_0, Bool.or_false])
  rw [e0]
  refine ik_01 _ (fun e => ⟨g + 1, xk_leak R.1 (by omega) g 0 (by omega) _ (by omega) (yk_bF hn.2 hg (br_t rfl (yk_knows R hg (fun ch' C' => ?_))))⟩) (fun e => yk_bF hn.2 hg (br_t rfl (yk_knows R hg (fun ch' C' => ?_))))
  · rw [if_neg e]
    exact br_f (by decide) ⟨g + 1, yk_leak R hg g 0 ch' C' (by omega) _ (by omega) (fun ch2 C2 => ⟨rfl, ik_re R⟩)⟩
  · rw [if_pos e]
    exact br_t rfl ⟨rfl, ik_re R⟩
theorem i_vc_atomsFor {k : Nat} {u : SX} {v : SY} (I : i_Rel k u v) (hk : k + 3 ≤ 1536) (v1 : Int32) : wpX_atomsFor (fun r => wpY_atomsFor (fun r' v' => r' = r ∧ i_Rel (k + 3) u v') v v1) u v1 := by
  obtain ⟨n, m, ch, K, A, B, H, C, rfl, rfl, R⟩ := I
  have hn := R.1.1
  unfold wpX_atomsFor wpY_atomsFor
  dsimp only
  rcases ik_ix v1 hn.2 with e | ⟨g, hg, rfl⟩
  · exact xk_isF e (br_t rfl (yk_bT e (br_f (by decide) ⟨rfl, ik_re R⟩)))
  exact xk_isT hn.2 hg (br_f (by decide) ⟨257, xk_atoms R.1 (by omega) 256 0 8 (by omega) (by omega) _ (by omega) (yk_bF hn.2 hg (br_t rfl ⟨257, yk_atoms R hg 256 0 8 ch C (by omega) (by omega) _ (by omega) (fun ch' C' => ⟨rfl, ik_re R⟩)⟩))⟩)
theorem i_vc_spare {k : Nat} {u : SX} {v : SY} (I : i_Rel k u v) (hk : k + 3 ≤ 1536) : wpX_spare (fun r => wpY_spare (fun r' v' => r' = r ∧ i_Rel (k + 3) u v') v) u := by
  obtain ⟨n, m, ch, K, A, B, H, C, rfl, rfl, R⟩ := I
  unfold wpX_spare wpY_spare
  dsimp only
  exact xk_from R.1 (fun ks hks => ⟨n + 1, xk_spare R.1 hks ⟨n + 1, yk_spare R (fun ch' C' => ⟨rfl, ik_re R⟩) n 0 ch C (by omega) _ (by omega)⟩ n 0 (by omega) _ (by omega)⟩)
