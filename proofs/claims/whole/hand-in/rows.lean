section
theorem pk_us {f : Nat → Int32} {k : Nat} {x : Int32} : upd f k x k = x := if_pos rfl
theorem pk_un {f : Nat → Int32} {k j : Nat} {x : Int32} (h : j ≠ k) : upd f k x j = f j := if_neg h
theorem pk_sub {a b : Nat} (h : b ≤ a) : nI a - nI b = nI (a - b) := by
  obtain ⟨c, rfl⟩ : ∃ c, a = c + b := ⟨a - b, by omega⟩
  rw [← nI_add, Int32.add_sub_cancel, Nat.add_sub_cancel]
theorem pk_m1 (n : Nat) : nI (n + 1) + (-1) = nI n := by
  rw [← nI_1, Int32.add_assoc, show (1 : Int32) + (-1) = 0 from rfl, Int32.add_zero]
theorem pk_mul (a b : Nat) : nI a * nI b = nI (a * b) := (Int32.ofNat_mul a b).symm
theorem pk_ix (x : Int32) {n : Nat} (hn : n < 2 ^ 31) : x < 0 ∨ nI n ≤ x ∨ ∃ j : Nat, j < n ∧ x = nI j := by
  by_cases h : x < 0
  · exact Or.inl h
  · obtain ⟨j, hj, rfl⟩ := nI_of h
    by_cases h2 : j < n
    · exact Or.inr (Or.inr ⟨j, h2, rfl⟩)
    · exact Or.inr (Or.inl (nI_le (by omega) hj))
theorem pk_le {x y : Int32} {A B : Prop} (a b : Nat) (f : a ≤ b → A) (g : b < a → B) (hx : x = nI a := by rfl) (hy : y = nI b := by rfl) (ha : a < 2 ^ 31 := by omega) (hb : b < 2 ^ 31 := by omega) : (x ≤ y → A) ∧ (¬ x ≤ y → B) := by
  subst hx hy
  rw [nI_leI ha hb]
  exact ⟨f, fun z => g (by omega)⟩
theorem pk_lt {x y : Int32} {A B : Prop} (a b : Nat) (f : a < b → A) (g : b ≤ a → B) (hx : x = nI a := by rfl) (hy : y = nI b := by rfl) (ha : a < 2 ^ 31 := by omega) (hb : b < 2 ^ 31 := by omega) : (x < y → A) ∧ (¬ x < y → B) := by
  subst hx hy
  rw [nI_ltI ha hb]
  exact ⟨f, fun z => g (by omega)⟩
theorem pk_eq {x y : Int32} {A B : Prop} (a b : Nat) (f : a = b → A) (g : a ≠ b → B) (hx : x = nI a := by rfl) (hy : y = nI b := by rfl) (ha : a < 2 ^ 31 := by omega) (hb : b < 2 ^ 31 := by omega) : (x = y → A) ∧ (¬ x = y → B) := by
  subst hx hy
  rw [nI_eq ha hb]
  exact ⟨f, g⟩
theorem pk_in {x : Int32} (n N : Nat) (h : n < N) (hx : x = nI n := by rfl) (hN : N < 2 ^ 31 := by omega) : vp_in x N := by
  subst hx
  exact vp_in_nI h hN
theorem pk_cl {x : Int32} (n : Nat) (hx : x = nI n := by rfl) (h : n < 2 ^ 31 := by omega) : x.toNatClampNeg = n := by
  subst hx
  exact nI_clamp h
theorem pk_least (P : Nat → Prop) (h : ∃ k, P k) : ∃ k, P k ∧ ∀ j, j < k → ¬ P j := by
  obtain ⟨k, hk⟩ := h
  induction k using Nat.strongRecOn with
  | ind k ih =>
    by_cases e : ∃ j, j < k ∧ P j
    · obtain ⟨j, hj, pj⟩ := e
      exact ih j hj pj
    · exact ⟨k, hk, fun j hj pj => e ⟨j, hj, pj⟩⟩
/-- a truth value as the program holds it -/
def tq_01 (b : Bool) : Int32 := if b = true then 1 else 0
theorem tq_br {b : Bool} {A B : Prop} (f : b = false → A) (t : b = true → B) : (tq_01 b = 0 → A) ∧ (¬ tq_01 b = 0 → B) := by
  cases b
  · exact br_t rfl (f rfl)
  · exact br_f (by decide) (t rfl)
theorem tq_m1 : (-1 : Int32) < 0 := by decide
theorem tq_neg {x : Int32} (h : x < 0) (n : Nat) (hn : n < 2 ^ 31) : ¬ x = nI n := fun e => nI_pos hn (e ▸ h)
/-- the code of an entity: 0 is 'none', e + 1 is the change e -/
def tq_b (e : Nat) : Int32 := if e = 0 then -1 else nI (e - 1)
theorem tq_b0 : tq_b 0 = -1 := rfl
theorem tq_bp {e : Nat} (h : 1 ≤ e) : tq_b e = nI (e - 1) := if_neg (by omega)
theorem tq_bs (c : Nat) : tq_b (c + 1) = nI c := tq_bp (by omega)
theorem tq_bneg {e : Nat} (h : e < 2 ^ 31) : tq_b e < 0 ↔ e = 0 := by
  constructor
  · intro z
    by_cases h0 : e = 0
    · exact h0
    · rw [tq_bp (by omega)] at z
      exact absurd z (nI_pos (by omega))
  · intro z
    rw [z]
    exact tq_m1
theorem tq_binj {d e : Nat} (hd : d < 2 ^ 31) (he : e < 2 ^ 31) : tq_b d = tq_b e ↔ d = e := by
  constructor
  · intro z
    by_cases h0 : d = 0
    · have := (tq_bneg hd).mpr h0
      rw [z] at this
      exact h0.trans ((tq_bneg he).mp this).symm
    · by_cases h1 : e = 0
      · have := (tq_bneg he).mpr h1
        rw [← z] at this
        exact absurd ((tq_bneg hd).mp this) h0
      · rw [tq_bp (by omega), tq_bp (by omega), nI_eq (by omega) (by omega)] at z
        omega
  · exact fun z => congrArg tq_b z
theorem tq_be {d e : Nat} {A B : Prop} {x y : Int32} (hd : d < 2 ^ 31) (he : e < 2 ^ 31) (hx : x = tq_b d) (hy : y = tq_b e) (f : d = e → A) (g : d ≠ e → B) : (x = y → A) ∧ (¬ x = y → B) := by
  subst hx hy
  rw [tq_binj hd he]
  exact ⟨f, g⟩
theorem tq_bl {e : Nat} {A B : Prop} {x : Int32} (he : e < 2 ^ 31) (hx : x = tq_b e) (f : e = 0 → A) (g : 1 ≤ e → B) : (x < 0 → A) ∧ (¬ x < 0 → B) := by
  subst hx
  rw [tq_bneg he]
  exact ⟨f, fun z => g (by omega)⟩
theorem tq_r3 {r o : Nat} : nI r * 3 + nI o = nI (r * 3 + o) := by
  rw [show (3 : Int32) = nI 3 from rfl, pk_mul, nI_add]
theorem tq_r48 {r c : Nat} : 48 * nI r + nI c = nI (48 * r + c) := by
  rw [show (48 : Int32) = nI 48 from rfl, pk_mul, nI_add]
theorem tq_bo0 : vp_nar .boolean 0 = tq_01 false := by decide +kernel
theorem tq_bo1 : vp_nar .boolean 1 = tq_01 true := by decide +kernel
/-! counting: how many of 1 .. n -/
def tq_c (P : Nat → Bool) : Nat → Nat
  | 0 => 0
  | n + 1 => tq_c P n + (if P (n + 1) = true then 1 else 0)
theorem tq_cT {P : Nat → Bool} {n : Nat} (h : P (n + 1) = true) : tq_c P (n + 1) = tq_c P n + 1 := by simp [tq_c, h]
theorem tq_cF {P : Nat → Bool} {n : Nat} (h : P (n + 1) = false) : tq_c P (n + 1) = tq_c P n := by simp [tq_c, h]
theorem tq_cle (P : Nat → Bool) (n : Nat) : tq_c P n ≤ n := by
  induction n with
  | zero => exact Nat.le_refl 0
  | succ n ih =>
    cases h : P (n + 1)
    · rw [tq_cF h]; omega
    · rw [tq_cT h]; omega
theorem tq_cS (P : Nat → Bool) (n : Nat) : tq_c P n ≤ tq_c P (n + 1) := by
  cases h : P (n + 1)
  · rw [tq_cF h]; omega
  · rw [tq_cT h]; omega
theorem tq_cmono (P : Nat → Bool) {m n : Nat} (h : m ≤ n) : tq_c P m ≤ tq_c P n := by
  induction n with
  | zero => rw [show m = 0 by omega]; omega
  | succ n ih =>
    by_cases e : m = n + 1
    · rw [e]; omega
    · exact Nat.le_trans (ih (by omega)) (tq_cS P n)
theorem tq_ccong {P Q : Nat → Bool} (n : Nat) (h : ∀ e, 1 ≤ e → e ≤ n → P e = Q e) : tq_c P n = tq_c Q n := by
  induction n with
  | zero => rfl
  | succ n ih =>
    have a := ih (fun e h1 h2 => h e h1 (by omega))
    have b := h (n + 1) (by omega) (by omega)
    show tq_c P n + (if P (n + 1) = true then 1 else 0) = tq_c Q n + (if Q (n + 1) = true then 1 else 0)
    rw [a, b]
theorem tq_cgap {P : Nat → Bool} {m : Nat} (n : Nat) (hm : m ≤ n) (h : ∀ e, m < e → e ≤ n → P e = false) : tq_c P n = tq_c P m := by
  induction n with
  | zero => rw [show m = 0 by omega]
  | succ n ih =>
    by_cases e : m = n + 1
    · rw [e]
    · rw [tq_cF (h (n + 1) (by omega) (by omega))]
      exact ih (by omega) (fun e h1 h2 => h e h1 (by omega))
theorem tq_cstep {P : Nat → Bool} {e : Nat} (h1 : 1 ≤ e) (hp : P e = true) : tq_c P e = tq_c P (e - 1) + 1 := by
  obtain ⟨k, rfl⟩ : ∃ k, e = k + 1 := ⟨e - 1, by omega⟩
  exact tq_cT hp
theorem tq_cpos {P : Nat → Bool} {e n : Nat} (h1 : 1 ≤ e) (hn : e ≤ n) (hp : P e = true) : tq_c P (e - 1) + 1 ≤ tq_c P n := by
  have := tq_cstep h1 hp
  have := tq_cmono P hn
  omega
theorem tq_cex {P : Nat → Bool} {n q : Nat} (h : q < tq_c P n) : ∃ e, 1 ≤ e ∧ e ≤ n ∧ P e = true ∧ tq_c P (e - 1) = q := by
  induction n with
  | zero => exact absurd h (Nat.not_lt_zero q)
  | succ n ih =>
    cases hp : P (n + 1)
    · rw [tq_cF hp] at h
      obtain ⟨e, a, b, c, d⟩ := ih h
      exact ⟨e, a, by omega, c, d⟩
    · rw [tq_cT hp] at h
      by_cases z : q < tq_c P n
      · obtain ⟨e, a, b, c, d⟩ := ih z
        exact ⟨e, a, by omega, c, d⟩
      · exact ⟨n + 1, by omega, by omega, hp, by rw [Nat.add_sub_cancel]; omega⟩
theorem tq_c0 {P : Nat → Bool} {n : Nat} (h : ∀ e, 1 ≤ e → e ≤ n → P e = false) : tq_c P n = 0 :=
  tq_cgap n (Nat.zero_le n) (fun e a b => h e a b)
theorem tq_c0' {P : Nat → Bool} {n e : Nat} (h : tq_c P n = 0) (h1 : 1 ≤ e) (hn : e ≤ n) : P e = false := by
  cases hp : P e
  · rfl
  · have := tq_cpos h1 hn hp
    omega
theorem tq_cone {P : Nat → Bool} {n : Nat} (h : ∀ e d, 1 ≤ e → e ≤ n → 1 ≤ d → d ≤ n → P e = true → P d = true → e = d) : tq_c P n ≤ 1 := by
  by_cases z : tq_c P n ≤ 1
  · exact z
  · obtain ⟨e, a, b, c, d⟩ := tq_cex (P := P) (n := n) (q := 0) (by omega)
    obtain ⟨e', a', b', c', d'⟩ := tq_cex (P := P) (n := n) (q := 1) (by omega)
    rw [h e e' a b a' b' c c'] at d
    omega
theorem tq_ctwo {P : Nat → Bool} {n i j : Nat} (h1 : 1 ≤ i) (hij : i < j) (hj : j ≤ n) (hi : P i = true) (hp : P j = true) : 2 ≤ tq_c P n := by
  have a := tq_cpos (n := j - 1) h1 (by omega) hi
  have b := tq_cpos (by omega) hj hp
  omega
theorem tq_call (n : Nat) : tq_c (fun _ => true) n = n := by
  induction n with
  | zero => rfl
  | succ n ih => rw [tq_cT rfl, ih]
end
section
/-! entities: 0 is the root, e the change e - 1. The pictures of what both sides hold -/
def tq_o (og : Nat → Nat) (o : Nat) : Nat → Bool := fun d => decide (og d = o)
def tq_nu (og : Nat → Nat) (e : Nat) : Nat := tq_c (tq_o og (og e)) e
def tq_kn (og kc : Nat → Nat) (r e : Nat) : Bool := decide (tq_nu og e ≤ kc (r * 3 + og e))
def tq_D (og bs kc : Nat → Nat) (dl : Nat → Bool) (r e : Nat) : Nat → Bool := fun d => dl d && (decide (bs d = e) && tq_kn og kc r d)
def tq_tk (M : Nat) (og bs kc : Nat → Nat) (dl : Nat → Bool) (r e : Nat) : Bool := decide (1 ≤ tq_c (tq_D og bs kc dl r e) M)
def tq_se (M : Nat) (og bs kc : Nat → Nat) (dl : Nat → Bool) (r e : Nat) : Bool := tq_kn og kc r e && !tq_tk M og bs kc dl r e
def tq_S (M : Nat) (og bs kc ln : Nat → Nat) (dl : Nat → Bool) (r : Nat) : Nat → Bool := fun i => tq_se M og bs kc dl r (ln i)
def tq_sk (st og : Nat → Nat) (e : Nat) : Nat := 3 * st e + og e
/-- the line: each entry's anchor is the last smaller one ahead of it -/
def tq_L (N : Nat) (bs ln sk : Nat → Nat) : Prop :=
  ∀ i, 1 ≤ i → i ≤ N → ∃ j, j < i ∧ bs (ln i) = ln j ∧ sk (ln j) < sk (ln i) ∧ ∀ m, j < m → m < i → sk (ln i) < sk (ln m)
def tq_PI (M N : Nat) (og bs st kc ln : Nat → Nat) (dl : Nat → Bool) : Prop :=
  (M ≤ 48 ∧ og 0 = 0 ∧ st 0 = 0 ∧ ln 0 = 0) ∧
  (∀ e, 1 ≤ e → e ≤ M → og e < 3 ∧ bs e < e ∧ 1 ≤ st e ∧ st e ≤ e) ∧
  (∀ e r, 1 ≤ e → e ≤ M → r < 3 → tq_kn og kc r e = true → tq_kn og kc r (bs e) = true) ∧
  (∀ r o, r < 3 → o < 3 → kc (r * 3 + o) ≤ tq_c (tq_o og o) M) ∧
  (∀ o, o < 3 → kc (o * 3 + o) = tq_c (tq_o og o) M) ∧
  (∀ e d, 1 ≤ e → e ≤ M → 1 ≤ d → d ≤ M → dl e = false → dl d = false → tq_sk st og e = tq_sk st og d → e = d) ∧
  (∀ i, 1 ≤ i → i ≤ N → 1 ≤ ln i ∧ ln i ≤ M ∧ dl (ln i) = false) ∧
  tq_L N bs ln (tq_sk st og) ∧
  (∀ P : Nat → Bool, tq_c (fun i => P (ln i)) N = tq_c (fun e => !dl e && P e) M)
section
variable {M N : Nat} {og bs st kc ln : Nat → Nat} {dl : Nat → Bool}
theorem tq_pN (h : tq_PI M N og bs st kc ln dl) : N ≤ M := by
  have a := h.2.2.2.2.2.2.2.2 (fun _ => true)
  rw [tq_call] at a
  rw [a]
  exact tq_cle _ M
theorem tq_pos (h : tq_PI M N og bs st kc ln dl) {e : Nat} (h1 : 1 ≤ e) (hM : e ≤ M) (hd : dl e = false) : ∃ i, 1 ≤ i ∧ i ≤ N ∧ ln i = e := by
  have a := h.2.2.2.2.2.2.2.2 (fun d => decide (d = e))
  have b := tq_cpos (P := fun d => !dl d && decide (d = e)) h1 hM (by simp [hd])
  obtain ⟨i, i1, iN, ie, _⟩ := tq_cex (P := fun i => decide (ln i = e)) (n := N) (q := 0) (by omega)
  exact ⟨i, i1, iN, of_decide_eq_true ie⟩
theorem tq_lninj0 (h : tq_PI M N og bs st kc ln dl) {i j : Nat} (h1 : 1 ≤ i) (hij : i < j) (hj : j ≤ N) : ln i ≠ ln j := by
  intro z
  have a := h.2.2.2.2.2.2.2.2 (fun d => decide (d = ln i))
  have b := tq_ctwo (P := fun m => decide (ln m = ln i)) h1 hij hj (by simp) (by simp [z])
  have c := tq_cone (P := fun d => !dl d && decide (d = ln i)) (n := M) (by
    intro e d _ _ _ _ he hd
    simp at he hd
    exact he.2.trans hd.2.symm)
  omega
theorem tq_lninj (h : tq_PI M N og bs st kc ln dl) {i j : Nat} (hi : i ≤ N) (hj : j ≤ N) (z : ln i = ln j) : i = j := by
  have h0 := h.1.2.2.2
  by_cases i0 : i = 0
  · by_cases j0 : j = 0
    · omega
    · have := (h.2.2.2.2.2.2.1 j (by omega) hj).1
      rw [i0, h0] at z
      omega
  · by_cases j0 : j = 0
    · have := (h.2.2.2.2.2.2.1 i (by omega) hi).1
      rw [j0, h0] at z
      omega
    · rcases Nat.lt_trichotomy i j with c | c | c
      · exact absurd z (tq_lninj0 h (by omega) c hj)
      · exact c
      · exact absurd z.symm (tq_lninj0 h (by omega) c hi)
theorem tq_sk0 (h : tq_PI M N og bs st kc ln dl) : tq_sk st og 0 = 0 := by
  unfold tq_sk
  rw [h.1.2.1, h.1.2.2.1]
theorem tq_kn0 (h : tq_PI M N og bs st kc ln dl) (r : Nat) : tq_kn og kc r 0 = true := by
  unfold tq_kn tq_nu
  exact decide_eq_true (Nat.zero_le _)
/-- the entry of t's own place ahead: where the walk of known entries goes on behind place i -/
def tq_T (N : Nat) (ln : Nat → Nat) (K : Nat → Bool) (i t : Nat) : Prop :=
  (∃ i', i < i' ∧ i' ≤ N ∧ K (ln i') = true ∧ (∀ m, i < m → m < i' → K (ln m) = false) ∧ t = ln i') ∨ ((∀ m, i < m → m ≤ N → K (ln m) = false) ∧ t = 0)
theorem tq_Tex (N : Nat) (ln : Nat → Nat) (K : Nat → Bool) (i : Nat) : ∃ t, tq_T N ln K i t := by
  by_cases z : ∃ m, i < m ∧ m ≤ N ∧ K (ln m) = true
  · obtain ⟨m, ⟨a, b, c⟩, d⟩ := pk_least _ z
    refine ⟨ln m, Or.inl ⟨m, a, b, c, fun q q1 q2 => ?_, rfl⟩⟩
    cases hq : K (ln q)
    · rfl
    · exact absurd ⟨q1, by omega, hq⟩ (d q q2)
  · refine ⟨0, Or.inr ⟨fun q q1 q2 => ?_, rfl⟩⟩
    cases hq : K (ln q)
    · rfl
    · exact absurd ⟨q, q1, q2, hq⟩ z
/-- what 'following' looks for, and what it finds among the first n -/
def tq_F (M : Nat) (bs : Nat → Nat) (dl : Nat → Bool) (K : Nat → Bool) (sk : Nat → Nat) (a b e : Nat) : Prop :=
  1 ≤ e ∧ e ≤ M ∧ dl e = false ∧ K e = true ∧ bs e = a ∧ (b = 0 ∨ sk e < sk b)
def tq_G (M : Nat) (bs : Nat → Nat) (dl : Nat → Bool) (K : Nat → Bool) (sk : Nat → Nat) (a b n x : Nat) : Prop :=
  (x = 0 ∧ ∀ e, e ≤ n → ¬ tq_F M bs dl K sk a b e) ∨ (tq_F M bs dl K sk a b x ∧ x ≤ n ∧ ∀ e, e ≤ n → tq_F M bs dl K sk a b e → sk e ≤ sk x)
theorem tq_G0 {K : Nat → Bool} {sk : Nat → Nat} {a b x : Nat} (g : tq_G M bs dl K sk a b M x) (z : ∀ e, ¬ tq_F M bs dl K sk a b e) : x = 0 := by
  rcases g with g | g
  · exact g.1
  · exact absurd g.1 (z x)
theorem tq_GY (h : tq_PI M N og bs st kc ln dl) {K : Nat → Bool} {a b x y : Nat} (g : tq_G M bs dl K (tq_sk st og) a b M x) (hy : tq_F M bs dl K (tq_sk st og) a b y)
    (hm : ∀ e, tq_F M bs dl K (tq_sk st og) a b e → tq_sk st og e ≤ tq_sk st og y) : x = y := by
  rcases g with g | g
  · exact absurd hy (g.2 y hy.2.1)
  · have u := hm x g.1
    have v := g.2.2 y hy.2.1 hy
    exact h.2.2.2.2.2.1 x y g.1.1 g.1.2.1 hy.1 hy.2.1 g.1.2.2.1 hy.2.2.1 (by omega)
/-- the place of what fits: behind the place of its anchor -/
theorem tq_Fp (h : tq_PI M N og bs st kc ln dl) {K : Nat → Bool} {b e q : Nat} (hq : q ≤ N) (f : tq_F M bs dl K (tq_sk st og) (ln q) b e) :
    ∃ p, q < p ∧ p ≤ N ∧ ln p = e ∧ tq_sk st og (ln q) < tq_sk st og e ∧ ∀ m, q < m → m < p → tq_sk st og e < tq_sk st og (ln m) := by
  obtain ⟨p, p1, pN, rfl⟩ := tq_pos h f.1 f.2.1 f.2.2.1
  obtain ⟨j, j1, j2, j3, j4⟩ := h.2.2.2.2.2.2.2.1 p p1 pN
  have e := tq_lninj h (i := j) (j := q) (by omega) hq (j2.symm.trans f.2.2.2.2.1)
  subst e
  exact ⟨p, j1, pN, rfl, j3, j4⟩
/-- the child: the walk's next entry, if it is greater -/
theorem tq_child (h : tq_PI M N og bs st kc ln dl) {r i t x : Nat} (hr : r < 3) (hi : i ≤ N) (hT : tq_T N ln (tq_kn og kc r) i t)
    (g : tq_G M bs dl (tq_kn og kc r) (tq_sk st og) (ln i) 0 M x) : (x = 0 ∧ (t = 0 ∨ tq_sk st og t < tq_sk st og (ln i))) ∨ (1 ≤ x ∧ x = t) := by
  rcases hT with ⟨i', a1, a2, a3, a4, rfl⟩ | ⟨a4, rfl⟩
  · obtain ⟨j, j1, j2, j3, j4⟩ := h.2.2.2.2.2.2.2.1 i' (by omega) a2
    have hl := h.2.2.2.2.2.2.1 i' (by omega) a2
    have hkj : tq_kn og kc r (ln j) = true := by
      rw [← j2]
      exact h.2.2.1 (ln i') r hl.1 hl.2.1 hr a3
    have hji : ¬ i < j := fun z => by
      have := a4 j z j1
      rw [hkj] at this
      exact Bool.noConfusion this
    by_cases c : j = i
    · subst c
      right
      have e := tq_GY h g (y := ln i') ⟨hl.1, hl.2.1, hl.2.2, a3, j2, Or.inl rfl⟩ (by
        intro e f
        obtain ⟨p, p1, p2, p3, p4, p5⟩ := tq_Fp h hi f
        by_cases w : p < i'
        · have := a4 p p1 w
          rw [p3, f.2.2.2.1] at this
          exact Bool.noConfusion this
        · by_cases w2 : p = i'
          · rw [← w2, p3]
            exact Nat.le_refl _
          · have := p5 i' a1 (by omega)
            omega)
      exact ⟨by rw [e]; exact hl.1, e⟩
    · left
      have s := j4 i (by omega) a1
      refine ⟨tq_G0 g ?_, Or.inr s⟩
      intro e f
      obtain ⟨p, p1, p2, p3, p4, p5⟩ := tq_Fp h hi f
      by_cases w : p < i'
      · have := a4 p p1 w
        rw [p3, f.2.2.2.1] at this
        exact Bool.noConfusion this
      · by_cases w2 : p = i'
        · rw [← p3, w2] at p4
          omega
        · have := p5 i' a1 (by omega)
          omega
  · left
    refine ⟨tq_G0 g ?_, Or.inl rfl⟩
    intro e f
    obtain ⟨p, p1, p2, p3, p4, p5⟩ := tq_Fp h hi f
    have := a4 p p1 p2
    rw [p3, f.2.2.2.1] at this
    exact Bool.noConfusion this
/-- what the climb keeps: at the entry of place q nothing known behind it is smaller, up to i, but the walk's next entry is -/
def tq_U (bs st og kc ln : Nat → Nat) (r i t q : Nat) : Prop :=
  q ≤ i ∧ tq_kn og kc r (ln q) = true ∧ (∀ m, q < m → m ≤ i → tq_kn og kc r (ln m) = true → tq_sk st og (ln q) < tq_sk st og (ln m)) ∧ (t = 0 ∨ tq_sk st og t < tq_sk st og (ln q))
theorem tq_bro (h : tq_PI M N og bs st kc ln dl) {r i t x q : Nat} (hr : r < 3) (hi : i ≤ N) (hT : tq_T N ln (tq_kn og kc r) i t) (hU : tq_U bs st og kc ln r i t q) (hq : 1 ≤ q)
    (g : tq_G M bs dl (tq_kn og kc r) (tq_sk st og) (bs (ln q)) (ln q) M x) : (x = 0 ∧ ∃ b, b < q ∧ bs (ln q) = ln b ∧ tq_U bs st og kc ln r i t b) ∨ (1 ≤ x ∧ x = t) := by
  obtain ⟨u1, u2, u3, u4⟩ := hU
  obtain ⟨b, b1, b2, b3, b4⟩ := h.2.2.2.2.2.2.2.1 q hq (by omega)
  have hlq := h.2.2.2.2.2.2.1 q hq (by omega)
  have hkb : tq_kn og kc r (ln b) = true := by
    rw [← b2]
    exact h.2.2.1 (ln q) r hlq.1 hlq.2.1 hr u2
  have v3 : ∀ m, b < m → m ≤ i → tq_kn og kc r (ln m) = true → tq_sk st og (ln b) < tq_sk st og (ln m) := by
    intro m m1 m2 m3
    rcases Nat.lt_trichotomy m q with c | c | c
    · have := b4 m m1 c
      omega
    · rw [c]
      exact b3
    · have := u3 m c m2 m3
      omega
  rw [b2] at g
  -- what fits lies behind i
  have beh : ∀ e, tq_F M bs dl (tq_kn og kc r) (tq_sk st og) (ln b) (ln q) e → ∃ p, i < p ∧ p ≤ N ∧ ln p = e ∧ tq_sk st og (ln b) < tq_sk st og e ∧ ∀ m, b < m → m < p → tq_sk st og e < tq_sk st og (ln m) := by
    intro e f
    obtain ⟨p, p1, p2, p3, p4, p5⟩ := tq_Fp h (by omega) f
    refine ⟨p, ?_, p2, p3, p4, p5⟩
    have lt : tq_sk st og e < tq_sk st og (ln q) := by
      rcases f.2.2.2.2.2 with z | z
      · omega
      · exact z
    by_cases w : i < p
    · exact w
    · rcases Nat.lt_trichotomy p q with c | c | c
      · have := b4 p p1 c
        rw [p3] at this
        omega
      · rw [← p3, c] at lt
        omega
      · have := u3 p c (by omega) (by rw [p3]; exact f.2.2.2.1)
        rw [p3] at this
        omega
  rcases hT with ⟨i', a1, a2, a3, a4, rfl⟩ | ⟨a4, rfl⟩
  · obtain ⟨j, j1, j2, j3, j4⟩ := h.2.2.2.2.2.2.2.1 i' (by omega) a2
    have hl := h.2.2.2.2.2.2.1 i' (by omega) a2
    have hkj : tq_kn og kc r (ln j) = true := by
      rw [← j2]
      exact h.2.2.1 (ln i') r hl.1 hl.2.1 hr a3
    have hji : ¬ i < j := fun z => by
      have := a4 j z j1
      rw [hkj] at this
      exact Bool.noConfusion this
    have lt : tq_sk st og (ln i') < tq_sk st og (ln q) := by
      rcases u4 with z | z
      · omega
      · exact z
    have hjb : ¬ b < j := fun z => by
      rcases Nat.lt_trichotomy j q with c | c | c
      · have := b4 j z c
        omega
      · rw [c] at j3
        omega
      · have := u3 j c (by omega) hkj
        omega
    by_cases c : j = b
    · subst c
      right
      have e := tq_GY h g (y := ln i') ⟨hl.1, hl.2.1, hl.2.2, a3, j2, Or.inr lt⟩ (by
        intro e f
        obtain ⟨p, p1, p2, p3, p4, p5⟩ := beh e f
        by_cases w : p < i'
        · have := a4 p p1 w
          rw [p3, f.2.2.2.1] at this
          exact Bool.noConfusion this
        · by_cases w2 : p = i'
          · rw [← w2, p3]
            exact Nat.le_refl _
          · have := p5 i' (by omega) (by omega)
            omega)
      exact ⟨by rw [e]; exact hl.1, e⟩
    · left
      have s := j4 b (by omega) (by omega)
      refine ⟨tq_G0 g ?_, b, b1, b2, by omega, hkb, v3, Or.inr s⟩
      intro e f
      obtain ⟨p, p1, p2, p3, p4, p5⟩ := beh e f
      by_cases w : p < i'
      · have := a4 p p1 w
        rw [p3, f.2.2.2.1] at this
        exact Bool.noConfusion this
      · by_cases w2 : p = i'
        · rw [← p3, w2] at p4
          omega
        · have := p5 i' (by omega) (by omega)
          omega
  · left
    refine ⟨tq_G0 g ?_, b, b1, b2, by omega, hkb, v3, Or.inl rfl⟩
    intro e f
    obtain ⟨p, p1, p2, p3, p4, p5⟩ := beh e f
    have := a4 p p1 p2
    rw [p3, f.2.2.2.1] at this
    exact Bool.noConfusion this
end
end
section
/-! the component's reading methods against the pictures -/
theorem tq_bx {x : Int32} {b : Bool} {A B : Prop} (hx : x = tq_01 b) (f : b = false → A) (t : b = true → B) : (x = 0 → A) ∧ (¬ x = 0 → B) := by
  subst hx
  exact tq_br f t
theorem tq_rep (v : Int32) : (∃ r, r < 3 ∧ v = nI r) ∨ ((∀ post : Int32 → Prop, post 0 → wpX_isReplica post v) ∧ (∀ post : Int32 → Prop, post 1 → wpY_bad post v)) := by
  rcases pk_ix v (n := 3) (by omega) with h | h | h
  · exact Or.inr ⟨fun _ p => br_t h p, fun _ p => br_t h p⟩
  · have h0 : ¬ v < 0 := fun z => by
      have a := Int32.lt_of_le_of_lt h z
      exact absurd a (nI_pos (by omega))
    have h2 : ¬ v ≤ 2 := fun z => by
      have a := Int32.le_trans h z
      exact absurd a (by decide)
    exact Or.inr ⟨fun _ p => br_f h0 (br_t h p), fun _ p => br_f h0 (br_f h2 p)⟩
  · exact Or.inl h
theorem tq_repX {r : Nat} (hr : r < 3) {post : Int32 → Prop} (h : post 1) : wpX_isReplica post (nI r) :=
  br_f (nI_pos (by omega)) (br_f (nI_ge (b := 3) hr (by omega)) h)
theorem tq_repY {r : Nat} (hr : r < 3) {post : Int32 → Prop} (h : post 0) : wpY_bad post (nI r) :=
  br_f (nI_pos (by omega)) (br_t (nI_le (b := 2) (by omega) (by omega)) h)
def tq_XA (M N : Nat) (og bs st kc ln : Nat → Nat) (dl : Nat → Bool) (lt : Nat → Int32) (xo xn xd xb xl xs xL xk : Nat → Int32) : Prop :=
  (∀ c, c < M → xo c = nI (og (c + 1)) ∧ xn c = nI (tq_nu og (c + 1)) ∧ xd c = tq_01 (dl (c + 1)) ∧ xb c = tq_b (bs (c + 1))) ∧
  (∀ c, c < M → dl (c + 1) = false → xl c = lt (c + 1) ∧ xs c = nI (st (c + 1))) ∧
  (∀ i, i < N → xL i = nI (ln (i + 1) - 1)) ∧
  (∀ j, j < 9 → xk j = nI (kc j))
/-- the greatest stamp that a replica knows -/
def tq_Mx (M : Nat) (st : Nat → Nat) (dl : Nat → Bool) (K : Nat → Bool) (m : Nat) : Prop :=
  (∀ e, 1 ≤ e → e ≤ M → dl e = false → K e = true → st e ≤ m) ∧ (m = 0 ∨ ∃ e, 1 ≤ e ∧ e ≤ M ∧ dl e = false ∧ K e = true ∧ st e = m)
theorem tq_Mxu {M : Nat} {st : Nat → Nat} {dl K : Nat → Bool} {m m' : Nat} (h : tq_Mx M st dl K m) (h' : tq_Mx M st dl K m') : m = m' := by
  have a : m ≤ m' := by
    rcases h.2 with z | ⟨e, e1, e2, e3, e4, e5⟩
    · omega
    · have := h'.1 e e1 e2 e3 e4
      omega
  have b : m' ≤ m := by
    rcases h'.2 with z | ⟨e, e1, e2, e3, e4, e5⟩
    · omega
    · have := h.1 e e1 e2 e3 e4
      omega
  omega
section
variable {M N : Nat} {og bs st kc ln : Nat → Nat} {dl : Nat → Bool} {lt : Nat → Int32} {xo xn xd xb xl xs xL xk : Nat → Int32}
theorem tq_kcb (I : tq_PI M N og bs st kc ln dl) {r o : Nat} (hr : r < 3) (ho : o < 3) : kc (r * 3 + o) ≤ M :=
  Nat.le_trans (I.2.2.2.1 r o hr ho) (tq_cle _ M)
theorem tq_nub (og : Nat → Nat) (e : Nat) : tq_nu og e ≤ e := tq_cle _ e
theorem tq_xknows (I : tq_PI M N og bs st kc ln dl) (X : tq_XA M N og bs st kc ln dl lt xo xn xd xb xl xs xL xk) {r e : Nat} {x : Int32} (hr : r < 3) (h1 : 1 ≤ e) (hM : e ≤ M) (hx : x = nI (e - 1))
    {post : Int32 → Prop} (hp : post (tq_01 (tq_kn og kc r e))) : wpX_knows post (nI M, nI N, xo, xn, xd, xb, xl, xs, xL, xk) (nI r) x := by
  subst hx
  obtain ⟨c, rfl⟩ : ∃ c, e = c + 1 := ⟨e - 1, by omega⟩
  rw [Nat.add_sub_cancel]
  have h48 := I.1.1
  have hog := (I.2.1 (c + 1) h1 hM).1
  have hX := X.1 c (by omega)
  have ec : (nI c).toNatClampNeg = c := nI_clamp (by omega)
  have eo : nI r * 3 + xo (nI c).toNatClampNeg = nI (r * 3 + og (c + 1)) := by rw [ec, hX.1, tq_r3]
  have hin : vp_in (nI c) 48 := vp_in_nI (by omega) (by omega)
  have hk := tq_kcb I hr hog
  have hn := tq_nub og (c + 1)
  refine ⟨hin, hin, ?_, ?_⟩
  · rw [eo]
    exact vp_in_nI (by omega) (by omega)
  · refine pk_lt (kc (r * 3 + og (c + 1))) (tq_nu og (c + 1)) (fun z => ?_) (fun z => ?_) ?_ ?_ (by omega) (by omega)
    · have : tq_kn og kc r (c + 1) = false := decide_eq_false (by omega)
      rw [this] at hp
      exact hp
    · have : tq_kn og kc r (c + 1) = true := decide_eq_true z
      rw [this] at hp
      exact hp
    · rw [eo, nI_clamp (by omega)]
      exact X.2.2.2 _ (by omega)
    · rw [ec]
      exact hX.2.1
theorem tq_xtk0 (I : tq_PI M N og bs st kc ln dl) (X : tq_XA M N og bs st kc ln dl lt xo xn xd xb xl xs xL xk) {r e : Nat} {x : Int32} (hr : r < 3) (he : e ≤ M) (hx : x = tq_b e)
    {post : Int32 → Prop} (hp : post (tq_01 (tq_tk M og bs kc dl r e))) : ∀ k c, c + k = M → tq_c (tq_D og bs kc dl r e) c = 0 → wX_isTakenAway_2 post (nI r) x (nI M) (nI N) xo xn xd xb xl xs xL xk (k + 1) (nI c) := by
  have h48 := I.1.1
  intro k
  induction k with
  | zero =>
    intro c hc h0
    refine br_t (nI_le (by omega) (by omega)) ?_
    have : tq_tk M og bs kc dl r e = false := decide_eq_false (by rw [show M = c by omega, h0]; omega)
    rw [this] at hp
    exact hp
  | succ k ih =>
    intro c hc h0
    have ec : (nI c).toNatClampNeg = c := nI_clamp (by omega)
    have hin : vp_in (nI c) 48 := vp_in_nI (by omega) (by omega)
    have hX := X.1 c (by omega)
    have hb := (I.2.1 (c + 1) (by omega) (by omega)).2.1
    have step : tq_D og bs kc dl r e (c + 1) = false → ∀ y : Int32, y = nI c + 1 → wX_isTakenAway_2 post (nI r) x (nI M) (nI N) xo xn xd xb xl xs xL xk (k + 1) y := fun hd y ey => by
      rw [ey, nI_1]
      exact ih (c + 1) (by omega) (by rw [tq_cF hd]; exact h0)
    refine br_f (nI_ge (by omega) (by omega)) ⟨hin, tq_bx (by rw [ec]; exact hX.2.2.1) (fun d0 => step (by simp [tq_D, d0])) (fun d1 => ⟨hin, ?_⟩)⟩
    refine tq_be (d := bs (c + 1)) (e := e) (by omega) (by omega) (by rw [ec]; exact hX.2.2.2) hx (fun be => ?_) (fun be => step (by simp [tq_D, be]))
    refine tq_xknows I X (e := c + 1) hr (by omega) (by omega) rfl ?_
    refine tq_br (fun k0 => step (by simp [tq_D, k0])) (fun k1 => ?_)
    have : tq_tk M og bs kc dl r e = true := decide_eq_true (by
      have := tq_cpos (P := tq_D og bs kc dl r e) (e := c + 1) (n := M) (by omega) (by omega) (by simp [tq_D, d1, be, k1])
      omega)
    rw [this] at hp
    exact hp
theorem tq_xshows (I : tq_PI M N og bs st kc ln dl) (X : tq_XA M N og bs st kc ln dl lt xo xn xd xb xl xs xL xk) {r e : Nat} {x : Int32} (hr : r < 3) (h1 : 1 ≤ e) (hM : e ≤ M) (hx : x = nI (e - 1))
    {post : Int32 → Prop} (hp : post (tq_01 (tq_se M og bs kc dl r e))) : wpX_shows post (nI M, nI N, xo, xn, xd, xb, xl, xs, xL, xk) (nI r) x := by
  unfold wpX_shows
  refine tq_xknows I X hr h1 hM hx ?_
  refine tq_br (fun k0 => ?_) (fun k1 => ?_)
  · rw [show tq_se M og bs kc dl r e = false by simp [tq_se, k0]] at hp
    exact hp
  · refine ⟨M + 1, tq_xtk0 I X hr hM (hx.trans (tq_bp h1).symm) ?_ M 0 (by omega) rfl⟩
    refine tq_br (fun k0 => ?_) (fun k2 => ?_)
    · rw [show tq_se M og bs kc dl r e = true by simp [tq_se, k0, k1]] at hp
      exact hp
    · rw [show tq_se M og bs kc dl r e = false by simp [tq_se, k2]] at hp
      exact hp
theorem tq_xline (I : tq_PI M N og bs st kc ln dl) (X : tq_XA M N og bs st kc ln dl lt xo xn xd xb xl xs xL xk) {i : Nat} (hi : i < N) : xL (nI i).toNatClampNeg = nI (ln (i + 1) - 1) := by
  have := tq_pN I
  have := I.1.1
  rw [nI_clamp (by omega)]
  exact X.2.2.1 i hi
theorem tq_xlen0 (I : tq_PI M N og bs st kc ln dl) (X : tq_XA M N og bs st kc ln dl lt xo xn xd xb xl xs xL xk) {r : Nat} (hr : r < 3)
    {post : Int32 → Prop} (hp : post (nI (tq_c (tq_S M og bs kc ln dl r) N))) : ∀ k i, i + k = N → wX_textLength_4 post (nI r) (nI M) (nI N) xo xn xd xb xl xs xL xk (k + 1) (nI (tq_c (tq_S M og bs kc ln dl r) i)) (nI i) := by
  have h48 := I.1.1
  have hN := tq_pN I
  intro k
  induction k with
  | zero =>
    intro i hi
    refine br_t (nI_le (by omega) (by omega)) ?_
    rw [show i = N by omega]
    exact hp
  | succ k ih =>
    intro i hi
    have hl := I.2.2.2.2.2.2.1 (i + 1) (by omega) (by omega)
    refine br_f (nI_ge (by omega) (by omega)) ⟨vp_in_nI (by omega) (by omega), tq_xshows I X hr hl.1 hl.2.1 (tq_xline I X (by omega)) (tq_br (fun s0 => ?_) (fun s1 => ?_))⟩
    · intro y ey
      rw [ey, nI_1]
      have := ih (i + 1) (by omega)
      rw [tq_cF (P := tq_S M og bs kc ln dl r) s0] at this
      exact this
    · intro z ez y ey
      rw [ey, ez, nI_1, nI_1]
      have := ih (i + 1) (by omega)
      rw [tq_cT (P := tq_S M og bs kc ln dl r) s1] at this
      exact this
theorem tq_xlen (I : tq_PI M N og bs st kc ln dl) (X : tq_XA M N og bs st kc ln dl lt xo xn xd xb xl xs xL xk) {r : Nat} (hr : r < 3)
    {post : Int32 → Prop} (hp : post (nI (tq_c (tq_S M og bs kc ln dl r) N))) : wpX_textLength post (nI M, nI N, xo, xn, xd, xb, xl, xs, xL, xk) (nI r) :=
  ⟨N + 1, tq_xlen0 I X hr hp N 0 (by omega)⟩
theorem tq_xsi0 (I : tq_PI M N og bs st kc ln dl) (X : tq_XA M N og bs st kc ln dl lt xo xn xd xb xl xs xL xk) {r p : Nat} (hr : r < 3) (hp1 : 1 ≤ p) (hpN : p ≤ N) (hs : tq_S M og bs kc ln dl r p = true)
    {post : Int32 → Prop} (hp : post (nI (ln p - 1))) : ∀ k i, i + k = N → i < p → wX_shownInsert_5 post (nI r) (nI (tq_c (tq_S M og bs kc ln dl r) (p - 1))) (nI M) (nI N) xo xn xd xb xl xs xL xk (k + 1) (nI (tq_c (tq_S M og bs kc ln dl r) i)) (nI i) := by
  have h48 := I.1.1
  have hN := tq_pN I
  intro k
  induction k with
  | zero =>
    intro i hi h
    omega
  | succ k ih =>
    intro i hi h
    have hl := I.2.2.2.2.2.2.1 (i + 1) (by omega) (by omega)
    have hin : vp_in (nI i) 48 := vp_in_nI (by omega) (by omega)
    have b1 := tq_cle (tq_S M og bs kc ln dl r) i
    have b2 := tq_cle (tq_S M og bs kc ln dl r) (p - 1)
    refine br_f (nI_ge (by omega) (by omega)) ⟨hin, tq_xshows I X hr hl.1 hl.2.1 (tq_xline I X (by omega)) (tq_br (fun s0 => ?_) (fun s1 => ?_))⟩
    · intro y ey
      have s0' : tq_S M og bs kc ln dl r (i + 1) = false := s0
      have hne : i + 1 ≠ p := fun z => by
        rw [z, hs] at s0'
        exact Bool.noConfusion s0'
      rw [ey, nI_1]
      have := ih (i + 1) (by omega) (by omega)
      rw [tq_cF s0'] at this
      exact this
    · have s1' : tq_S M og bs kc ln dl r (i + 1) = true := s1
      refine pk_eq (tq_c (tq_S M og bs kc ln dl r) i) (tq_c (tq_S M og bs kc ln dl r) (p - 1)) (fun z => ?_) (fun z => ?_) rfl rfl (by omega) (by omega)
      · have e : i + 1 = p := by
          by_cases w : i + 1 = p
          · exact w
          · have := tq_cpos (P := tq_S M og bs kc ln dl r) (e := i + 1) (n := p - 1) (by omega) (by omega) s1'
            rw [Nat.add_sub_cancel] at this
            omega
        refine ⟨hin, ?_⟩
        rw [tq_xline I X (by omega), e]
        exact hp
      · have hne : i + 1 ≠ p := fun w => z (by rw [← w, Nat.add_sub_cancel])
        intro w ew y ey
        rw [ey, ew, nI_1, nI_1]
        have := ih (i + 1) (by omega) (by omega)
        rw [tq_cT s1'] at this
        exact this
theorem tq_xsi (I : tq_PI M N og bs st kc ln dl) (X : tq_XA M N og bs st kc ln dl lt xo xn xd xb xl xs xL xk) {r p : Nat} (hr : r < 3) (hp1 : 1 ≤ p) (hpN : p ≤ N) (hs : tq_S M og bs kc ln dl r p = true)
    {x : Int32} (hx : x = nI (tq_c (tq_S M og bs kc ln dl r) (p - 1))) {post : Int32 → Prop} (hp : post (nI (ln p - 1))) : wpX_shownInsert post (nI M, nI N, xo, xn, xd, xb, xl, xs, xL, xk) (nI r) x := by
  subst hx
  exact ⟨N + 1, tq_xsi0 I X hr hp1 hpN hs hp N 0 (by omega) (by omega)⟩
theorem tq_xsn0 (I : tq_PI M N og bs st kc ln dl) (X : tq_XA M N og bs st kc ln dl lt xo xn xd xb xl xs xL xk) {r : Nat} (hr : r < 3) {x : Int32} (hx : ∀ j, j < tq_c (tq_S M og bs kc ln dl r) N → ¬ nI j = x)
    {post : Int32 → Prop} (hp : post (-1)) : ∀ k i, i + k = N → wX_shownInsert_5 post (nI r) x (nI M) (nI N) xo xn xd xb xl xs xL xk (k + 1) (nI (tq_c (tq_S M og bs kc ln dl r) i)) (nI i) := by
  have h48 := I.1.1
  have hN := tq_pN I
  intro k
  induction k with
  | zero =>
    intro i hi
    exact br_t (nI_le (by omega) (by omega)) hp
  | succ k ih =>
    intro i hi
    have hl := I.2.2.2.2.2.2.1 (i + 1) (by omega) (by omega)
    have hin : vp_in (nI i) 48 := vp_in_nI (by omega) (by omega)
    refine br_f (nI_ge (by omega) (by omega)) ⟨hin, tq_xshows I X hr hl.1 hl.2.1 (tq_xline I X (by omega)) (tq_br (fun s0 => ?_) (fun s1 => ?_))⟩
    · intro y ey
      rw [ey, nI_1]
      have := ih (i + 1) (by omega)
      rw [tq_cF (P := tq_S M og bs kc ln dl r) s0] at this
      exact this
    · have s1' : tq_S M og bs kc ln dl r (i + 1) = true := s1
      refine br_f (hx _ ?_) ?_
      · have := tq_cpos (P := tq_S M og bs kc ln dl r) (e := i + 1) (n := N) (by omega) (by omega) s1'
        rw [Nat.add_sub_cancel] at this
        omega
      · intro w ew y ey
        rw [ey, ew, nI_1, nI_1]
        have := ih (i + 1) (by omega)
        rw [tq_cT s1'] at this
        exact this
theorem tq_xsn (I : tq_PI M N og bs st kc ln dl) (X : tq_XA M N og bs st kc ln dl lt xo xn xd xb xl xs xL xk) {r : Nat} (hr : r < 3) {x : Int32} (hx : ∀ j, j < tq_c (tq_S M og bs kc ln dl r) N → ¬ nI j = x)
    {post : Int32 → Prop} (hp : post (-1)) : wpX_shownInsert post (nI M, nI N, xo, xn, xd, xb, xl, xs, xL, xk) (nI r) x :=
  ⟨N + 1, tq_xsn0 I X hr hx hp N 0 (by omega)⟩
theorem tq_xrow0 (I : tq_PI M N og bs st kc ln dl) (X : tq_XA M N og bs st kc ln dl lt xo xn xd xb xl xs xL xk) {r : Nat} (hr : r < 3)
    {post : Int32 → Prop} (hp : post (nI (tq_c (fun i => tq_kn og kc r (ln i)) N))) : ∀ k i, i + k = N → wX_row_13 post (nI r) (nI M) (nI N) xo xn xd xb xl xs xL xk (k + 1) (nI (tq_c (fun i => tq_kn og kc r (ln i)) i)) (nI i) := by
  have h48 := I.1.1
  have hN := tq_pN I
  intro k
  induction k with
  | zero =>
    intro i hi
    refine br_t (nI_le (by omega) (by omega)) ?_
    rw [show i = N by omega]
    exact hp
  | succ k ih =>
    intro i hi
    have hl := I.2.2.2.2.2.2.1 (i + 1) (by omega) (by omega)
    refine br_f (nI_ge (by omega) (by omega)) ⟨vp_in_nI (by omega) (by omega), tq_xknows I X hr hl.1 hl.2.1 (tq_xline I X (by omega)) (tq_br (fun s0 => ?_) (fun s1 => ?_))⟩
    · intro y ey
      rw [ey, nI_1]
      have := ih (i + 1) (by omega)
      rw [tq_cF (P := fun i => tq_kn og kc r (ln i)) s0] at this
      exact this
    · intro z ez y ey
      rw [ey, ez, nI_1, nI_1]
      have := ih (i + 1) (by omega)
      rw [tq_cT (P := fun i => tq_kn og kc r (ln i)) s1] at this
      exact this
theorem tq_xst0 (I : tq_PI M N og bs st kc ln dl) (X : tq_XA M N og bs st kc ln dl lt xo xn xd xb xl xs xL xk) {r : Nat} (hr : r < 3)
    {post : Int32 → Prop} (hp : ∀ m, tq_Mx M st dl (tq_kn og kc r) m → post (nI (m + 1))) : ∀ k i m, i + k = N → (∀ j, 1 ≤ j → j ≤ i → tq_kn og kc r (ln j) = true → st (ln j) ≤ m) →
    (m = 0 ∨ ∃ e, 1 ≤ e ∧ e ≤ M ∧ dl e = false ∧ tq_kn og kc r e = true ∧ st e = m) → wX_nextStamp_4 post (nI r) (nI M) (nI N) xo xn xd xb xl xs xL xk (k + 1) (nI m) (nI i) := by
  have h48 := I.1.1
  have hN := tq_pN I
  intro k
  induction k with
  | zero =>
    intro i m hi ha hb
    refine br_t (nI_le (by omega) (by omega)) ?_
    rw [nI_1]
    refine hp m ⟨fun e e1 e2 e3 e4 => ?_, hb⟩
    obtain ⟨j, j1, j2, rfl⟩ := tq_pos I e1 e2 e3
    exact ha j j1 (by omega) e4
  | succ k ih =>
    intro i m hi ha hb
    have hm : m ≤ 48 := by
      rcases hb with z | ⟨e, e1, e2, e3, e4, e5⟩
      · omega
      · have := (I.2.1 e e1 e2).2.2.2
        omega
    have hl := I.2.2.2.2.2.2.1 (i + 1) (by omega) (by omega)
    have hst := (I.2.1 _ hl.1 hl.2.1).2.2.2
    refine br_f (nI_ge (by omega) (by omega)) ⟨vp_in_nI (by omega) (by omega), fun y ey => ?_⟩
    have hy : y = nI (ln (i + 1) - 1) := ey.trans (tq_xline I X (by omega))
    have hyin : vp_in y 48 := by rw [hy]; exact vp_in_nI (by omega) (by omega)
    have hys : xs y.toNatClampNeg = nI (st (ln (i + 1))) := by
      rw [hy, nI_clamp (by omega)]
      have := (X.2.1 (ln (i + 1) - 1) (by omega) (by rw [Nat.sub_add_cancel hl.1]; exact hl.2.2)).2
      rw [Nat.sub_add_cancel hl.1] at this
      exact this
    refine tq_xknows I X hr hl.1 hl.2.1 hy (tq_br (fun s0 => ?_) (fun s1 => ⟨hyin, ?_⟩))
    · intro z ez
      rw [ez, nI_1]
      refine ih (i + 1) m (by omega) (fun j j1 j2 j3 => ?_) hb
      by_cases w : j = i + 1
      · rw [w, s0] at j3
        exact Bool.noConfusion j3
      · exact ha j j1 (by omega) j3
    · refine pk_le (st (ln (i + 1))) m (fun c => ?_) (fun c => ⟨hyin, ?_⟩) hys rfl (by omega) (by omega)
      · intro z ez
        rw [ez, nI_1]
        refine ih (i + 1) m (by omega) (fun j j1 j2 j3 => ?_) hb
        by_cases w : j = i + 1
        · rw [w]
          exact c
        · exact ha j j1 (by omega) j3
      · intro w ew z ez
        rw [ez, ew, nI_1, hys]
        refine ih (i + 1) (st (ln (i + 1))) (by omega) (fun j j1 j2 j3 => ?_) (Or.inr ⟨_, hl.1, hl.2.1, hl.2.2, s1, rfl⟩)
        by_cases w : j = i + 1
        · rw [w]
          exact Nat.le_refl _
        · have := ha j j1 (by omega) j3
          omega
theorem tq_xst (I : tq_PI M N og bs st kc ln dl) (X : tq_XA M N og bs st kc ln dl lt xo xn xd xb xl xs xL xk) {r : Nat} (hr : r < 3)
    {post : Int32 → Prop} (hp : ∀ m, tq_Mx M st dl (tq_kn og kc r) m → post (nI (m + 1))) : wpX_nextStamp post (nI M, nI N, xo, xn, xd, xb, xl, xs, xL, xk) (nI r) :=
  ⟨N + 1, tq_xst0 I X hr hp N 0 0 (by omega) (fun j j1 j2 => by omega) (Or.inl rfl)⟩
end
end
section
/-! the reference's reading methods against the same pictures -/
def tq_YA (M : Nat) (og bs st kc : Nat → Nat) (dl : Nat → Bool) (lt : Nat → Int32) (yo yi yl yt ys yk : Nat → Int32) : Prop :=
  (∀ c, c < M → yo c = nI (og (c + 1)) ∧ yi c = tq_01 (!dl (c + 1)) ∧ yt c = tq_b (bs (c + 1))) ∧
  (∀ c, c < M → dl (c + 1) = false → yl c = lt (c + 1) ∧ ys c = nI (st (c + 1))) ∧
  (∀ r c, r < 3 → c < 48 → yk (48 * r + c) = tq_01 (decide (c < M) && tq_kn og kc r (c + 1)))
section
variable {M N : Nat} {og bs st kc ln : Nat → Nat} {dl : Nat → Bool} {lt : Nat → Int32} {fs : Int32} {yo yi yl yt ys yk yx : Nat → Int32}
theorem tq_yk (I : tq_PI M N og bs st kc ln dl) (Y : tq_YA M og bs st kc dl lt yo yi yl yt ys yk) {r e : Nat} {x : Int32} (hr : r < 3) (h1 : 1 ≤ e) (hM : e ≤ M) (hx : x = nI (e - 1)) :
    vp_in (48 * nI r + x) 144 ∧ yk (48 * nI r + x).toNatClampNeg = tq_01 (tq_kn og kc r e) := by
  have h48 := I.1.1
  rw [hx, tq_r48]
  refine ⟨vp_in_nI (by omega) (by omega), ?_⟩
  rw [nI_clamp (by omega), Y.2.2 r (e - 1) hr (by omega), Nat.sub_add_cancel h1, show decide (e - 1 < M) = true from decide_eq_true (by omega), Bool.true_and]
theorem tq_yat (Y : tq_YA M og bs st kc dl lt yo yi yl yt ys yk) {e : Nat} (h1 : 1 ≤ e) (hM : e ≤ M) (h48 : M ≤ 48) {x : Int32} (hx : x = nI (e - 1)) :
    vp_in x 48 ∧ yo x.toNatClampNeg = nI (og e) ∧ yi x.toNatClampNeg = tq_01 (!dl e) ∧ yt x.toNatClampNeg = tq_b (bs e) := by
  have := Y.1 (e - 1) (by omega)
  rw [Nat.sub_add_cancel h1] at this
  rw [hx]
  refine ⟨vp_in_nI (by omega) (by omega), ?_⟩
  rw [nI_clamp (by omega)]
  exact this
theorem tq_yst (Y : tq_YA M og bs st kc dl lt yo yi yl yt ys yk) {e : Nat} (h1 : 1 ≤ e) (hM : e ≤ M) (hd : dl e = false) (h48 : M ≤ 48) {x : Int32} (hx : x = nI (e - 1)) :
    yl x.toNatClampNeg = lt e ∧ ys x.toNatClampNeg = nI (st e) := by
  have := Y.2.1 (e - 1) (by omega) (by rw [Nat.sub_add_cancel h1]; exact hd)
  rw [Nat.sub_add_cancel h1] at this
  rw [hx, nI_clamp (by omega)]
  exact this
theorem tq_yrow (I : tq_PI M N og bs st kc ln dl) (Y : tq_YA M og bs st kc dl lt yo yi yl yt ys yk) {r e : Nat} {x : Int32} (hr : r < 3) (h1 : 1 ≤ e) (hM : e ≤ M) (hx : x = nI (e - 1))
    {post : Int32 → Prop} (hp : post (tq_01 (tq_kn og kc r e && !dl e))) : wpY_inRow post (nI M, fs, yo, yi, yl, yt, ys, yk, yx) (nI r) x := by
  have hk := tq_yk I Y hr h1 hM hx
  have ha := tq_yat Y h1 hM I.1.1 hx
  refine ⟨hk.1, tq_bx hk.2 (fun k0 => ?_) (fun k1 => ⟨ha.1, tq_bx ha.2.2.1 (fun d0 => ?_) (fun d1 => ?_)⟩)⟩
  · rw [k0] at hp
    exact hp
  · rw [d0, Bool.and_false] at hp
    exact hp
  · rw [k1, d1] at hp
    exact hp
theorem tq_ygr (I : tq_PI M N og bs st kc ln dl) (Y : tq_YA M og bs st kc dl lt yo yi yl yt ys yk) {e d : Nat} {x y : Int32} (e1 : 1 ≤ e) (eM : e ≤ M) (ed : dl e = false) (hx : x = nI (e - 1))
    (d1 : 1 ≤ d) (dM : d ≤ M) (dd : dl d = false) (hy : y = nI (d - 1))
    {post : Int32 → Prop} (hp : post (tq_01 (decide (tq_sk st og d < tq_sk st og e)))) : wpY_greater post (nI M, fs, yo, yi, yl, yt, ys, yk, yx) x y := by
  have h48 := I.1.1
  have ax := tq_yat Y e1 eM h48 hx
  have ay := tq_yat Y d1 dM h48 hy
  have bx := (tq_yst Y e1 eM ed h48 hx).2
  have bY := (tq_yst Y d1 dM dd h48 hy).2
  have ie := I.2.1 e e1 eM
  have id' := I.2.1 d d1 dM
  unfold tq_sk at hp
  refine ⟨ax.1, ay.1, pk_lt (st d) (st e) (fun c => ?_) (fun c => ⟨ax.1, ay.1, pk_eq (st e) (st d) (fun c2 => ⟨ax.1, ay.1, pk_le (og e) (og d) (fun c3 => ?_) (fun c3 => ?_) ax.2.1 ay.2.1 (by omega) (by omega)⟩) (fun c2 => ?_) bx bY (by omega) (by omega)⟩) bY bx (by omega) (by omega)⟩
  · rw [decide_eq_true (by omega)] at hp
    exact hp
  · rw [decide_eq_false (by omega)] at hp
    exact hp
  · rw [decide_eq_true (by omega)] at hp
    exact hp
  · rw [decide_eq_false (by omega)] at hp
    exact hp
theorem tq_GN {K : Nat → Bool} {sk : Nat → Nat} {a b c x : Nat} (g : tq_G M bs dl K sk a b c x) (n : ¬ tq_F M bs dl K sk a b (c + 1)) : tq_G M bs dl K sk a b (c + 1) x := by
  have key : ∀ e, e ≤ c + 1 → tq_F M bs dl K sk a b e → e ≤ c := fun e h f => by
    by_cases w : e = c + 1
    · rw [w] at f
      exact absurd f n
    · omega
  rcases g with g | g
  · exact Or.inl ⟨g.1, fun e h f => g.2 e (key e h f) f⟩
  · exact Or.inr ⟨g.1, by have := g.2.1; omega, fun e h f => g.2.2 e (key e h f) f⟩
theorem tq_GF {K : Nat → Bool} {sk : Nat → Nat} {a b c x : Nat} (g : tq_G M bs dl K sk a b c x) (f : tq_F M bs dl K sk a b (c + 1)) (hx : x = 0 ∨ sk x < sk (c + 1)) : tq_G M bs dl K sk a b (c + 1) (c + 1) := by
  refine Or.inr ⟨f, Nat.le_refl _, fun e h fe => ?_⟩
  by_cases w : e = c + 1
  · rw [w]
    exact Nat.le_refl _
  · rcases g with g | g
    · exact absurd fe (g.2 e (by omega))
    · have := g.2.2 e (by omega) fe
      have := g.1.1
      omega
theorem tq_GL {K : Nat → Bool} {sk : Nat → Nat} {a b c x : Nat} (g : tq_G M bs dl K sk a b c x) (h1 : 1 ≤ x) (hx : sk (c + 1) ≤ sk x) : tq_G M bs dl K sk a b (c + 1) x := by
  rcases g with g | g
  · have := g.1
    omega
  · refine Or.inr ⟨g.1, by have := g.2.1; omega, fun e h fe => ?_⟩
    by_cases w : e = c + 1
    · rw [w]
      exact hx
    · exact g.2.2 e (by omega) fe
theorem tq_y55 (I : tq_PI M N og bs st kc ln dl) (Y : tq_YA M og bs st kc dl lt yo yi yl yt ys yk) {a b c x : Nat} {K : Nat → Bool} {z : Bool} {z0 x1 x2 x3 : Int32} (hc : c < M)
    (g : tq_G M bs dl K (tq_sk st og) a b c x) (hz : z0 = tq_01 z) (zt : z = true → tq_F M bs dl K (tq_sk st og) a b (c + 1)) (zf : z = false → ¬ tq_F M bs dl K (tq_sk st og) a b (c + 1))
    {post : Int32 → Prop} {J : Int32 → Int32 → Prop} (hJ : ∀ x', tq_G M bs dl K (tq_sk st og) a b (c + 1) x' → J (tq_b x') (nI (c + 1))) :
    wY_following_55 post J x1 x2 x3 (tq_b x) (nI c) z0 (nI M) fs yo yi yl yt ys yk yx := by
  have h48 := I.1.1
  have hxM : x ≤ 48 := by
    rcases g with g | g
    · omega
    · have := g.2.1
      omega
  refine tq_bx hz (fun h => ?_) (fun h => tq_bl (by omega) rfl (fun x0 => ?_) (fun x1 => ?_))
  · intro y ey
    rw [ey, nI_1]
    exact hJ x (tq_GN g (zf h))
  · intro y ey
    rw [ey, nI_1, ← tq_bs c]
    exact hJ (c + 1) (tq_GF g (zt h) (Or.inl x0))
  · have f := zt h
    have fx : tq_F M bs dl K (tq_sk st og) a b x := by
      rcases g with g | g
      · have := g.1
        omega
      · exact g.1
    refine tq_ygr I Y f.1 f.2.1 f.2.2.1 rfl fx.1 fx.2.1 fx.2.2.1 (tq_bp x1) (tq_br (fun w => ?_) (fun w => ?_))
    · intro y ey
      rw [ey, nI_1]
      exact hJ x (tq_GL g x1 (Nat.le_of_not_lt (of_decide_eq_false w)))
    · intro y ey
      rw [ey, nI_1, ← tq_bs c]
      exact hJ (c + 1) (tq_GF g f (Or.inr (of_decide_eq_true w)))
theorem tq_yfol0 (I : tq_PI M N og bs st kc ln dl) (Y : tq_YA M og bs st kc dl lt yo yi yl yt ys yk) {r a b : Nat} {x2 x3 : Int32} (hr : r < 3) (ha : a ≤ M) (hb : b ≤ M) (hbd : 1 ≤ b → dl b = false)
    (h2 : x2 = tq_b a) (h3 : x3 = tq_b b) {post : Int32 → Prop} (hp : ∀ x, tq_G M bs dl (tq_kn og kc r) (tq_sk st og) a b M x → post (tq_b x)) :
    ∀ k c x, c + k = M → tq_G M bs dl (tq_kn og kc r) (tq_sk st og) a b c x → wY_following_6 post (nI r) x2 x3 (nI M) fs yo yi yl yt ys yk yx (k + 1) (tq_b x) (nI c) := by
  have h48 := I.1.1
  intro k
  induction k with
  | zero =>
    intro c x hc g
    refine br_t (nI_le (by omega) (by omega)) (hp x ?_)
    rw [show M = c by omega] at g ⊢
    exact g
  | succ k ih =>
    intro c x hc g
    have hc' : c < M := by omega
    have hJ := fun x' g' => ih (c + 1) x' (by omega) g'
    have hat := tq_yat Y (e := c + 1) (by omega) (by omega) h48 (x := nI c) rfl
    have hB := (I.2.1 (c + 1) (by omega) (by omega)).2.1
    refine br_f (nI_ge (by omega) (by omega)) (tq_yrow I Y (e := c + 1) hr (by omega) (by omega) rfl (tq_br (fun r0 => ?_) (fun r1 => ⟨hat.1, ?_⟩)))
    · refine tq_y55 I Y (z := false) hc' g rfl (fun h => Bool.noConfusion h) (fun _ f => ?_) hJ
      rw [f.2.2.2.1, f.2.2.1] at r0
      exact Bool.noConfusion r0
    · have hk : tq_kn og kc r (c + 1) = true ∧ dl (c + 1) = false := by
        cases h1 : tq_kn og kc r (c + 1) <;> cases h2 : dl (c + 1) <;> simp_all
      refine tq_be (by omega) (by omega) hat.2.2.2 h2 (fun e => ?_) (fun e => ?_)
      · refine tq_bl (by omega) h3 (fun b0 => ?_) (fun b1 => ?_)
        · exact tq_y55 I Y (z := true) hc' g rfl (fun _ => ⟨by omega, by omega, hk.2, hk.1, e, Or.inl b0⟩) (fun h => Bool.noConfusion h) hJ
        · refine tq_ygr I Y b1 hb (hbd b1) (h3.trans (tq_bp b1)) (by omega) (by omega) hk.2 rfl (tq_br (fun w => ?_) (fun w => ?_))
          · refine tq_y55 I Y (z := false) hc' g rfl (fun h => Bool.noConfusion h) (fun _ f => ?_) hJ
            rcases f.2.2.2.2.2 with q | q
            · omega
            · exact absurd q (of_decide_eq_false w)
          · exact tq_y55 I Y (z := true) hc' g rfl (fun _ => ⟨by omega, by omega, hk.2, hk.1, e, Or.inr (of_decide_eq_true w)⟩) (fun h => Bool.noConfusion h) hJ
      · exact tq_y55 I Y (z := false) hc' g rfl (fun h => Bool.noConfusion h) (fun _ f => e f.2.2.2.2.1) hJ
theorem tq_yfol (I : tq_PI M N og bs st kc ln dl) (Y : tq_YA M og bs st kc dl lt yo yi yl yt ys yk) {r a b : Nat} {x2 x3 : Int32} (hr : r < 3) (ha : a ≤ M) (hb : b ≤ M) (hbd : 1 ≤ b → dl b = false)
    (h2 : x2 = tq_b a) (h3 : x3 = tq_b b) {post : Int32 → Prop} (hp : ∀ x, tq_G M bs dl (tq_kn og kc r) (tq_sk st og) a b M x → post (tq_b x)) :
    wpY_following post (nI M, fs, yo, yi, yl, yt, ys, yk, yx) (nI r) x2 x3 :=
  ⟨M + 1, tq_yfol0 I Y hr ha hb hbd h2 h3 hp M 0 0 (by omega) (Or.inl ⟨rfl, fun e h f => by have := f.1; omega⟩)⟩
theorem tq_ygone0 (I : tq_PI M N og bs st kc ln dl) (Y : tq_YA M og bs st kc dl lt yo yi yl yt ys yk) {r e : Nat} {x : Int32} (hr : r < 3) (he : e ≤ M) (hx : x = tq_b e)
    {post : Int32 → Prop} (hp : post (tq_01 (tq_tk M og bs kc dl r e))) : ∀ k c, c + k = M → tq_c (tq_D og bs kc dl r e) c = 0 → wY_gone_2 post (nI r) x (nI M) fs yo yi yl yt ys yk yx (k + 1) (nI c) := by
  have h48 := I.1.1
  intro k
  induction k with
  | zero =>
    intro c hc h0
    refine br_t (nI_le (by omega) (by omega)) ?_
    have : tq_tk M og bs kc dl r e = false := decide_eq_false (by rw [show M = c by omega, h0]; omega)
    rw [this] at hp
    exact hp
  | succ k ih =>
    intro c hc h0
    have hat := tq_yat Y (e := c + 1) (by omega) (by omega) h48 (x := nI c) rfl
    have hk := tq_yk I Y (e := c + 1) (x := nI c) hr (by omega) (by omega) rfl
    have hb := (I.2.1 (c + 1) (by omega) (by omega)).2.1
    have step : tq_D og bs kc dl r e (c + 1) = false → ∀ y : Int32, y = nI c + 1 → wY_gone_2 post (nI r) x (nI M) fs yo yi yl yt ys yk yx (k + 1) y := fun hd y ey => by
      rw [ey, nI_1]
      exact ih (c + 1) (by omega) (by rw [tq_cF hd]; exact h0)
    refine br_f (nI_ge (by omega) (by omega)) ⟨hk.1, tq_bx hk.2 (fun k0 => step (by simp [tq_D, k0])) (fun k1 => ⟨hat.1, tq_bx hat.2.2.1 (fun d0 => ⟨hat.1, ?_⟩) (fun d1 => step (by simp at d1; simp [tq_D, d1]))⟩)⟩
    refine tq_be (d := bs (c + 1)) (e := e) (by omega) (by omega) hat.2.2.2 hx (fun be => ?_) (fun be => step (by simp [tq_D, be]))
    have d0' : dl (c + 1) = true := by simpa using d0
    have : tq_tk M og bs kc dl r e = true := decide_eq_true (by
      have := tq_cpos (P := tq_D og bs kc dl r e) (e := c + 1) (n := M) (by omega) (by omega) (by simp [tq_D, d0', be, k1])
      omega)
    rw [this] at hp
    exact hp
theorem tq_ynext0 (I : tq_PI M N og bs st kc ln dl) (Y : tq_YA M og bs st kc dl lt yo yi yl yt ys yk) {r i t : Nat} (hr : r < 3) (hi : i ≤ N) (hT : tq_T N ln (tq_kn og kc r) i t)
    {post : Int32 → Prop} (hp : post (tq_b t)) : ∀ n q w, ln q < n → tq_U bs st og kc ln r i t q → w + ln q ≤ 48 → wY_next_20 post (nI r) (nI M) fs yo yi yl yt ys yk yx n (tq_b (ln q)) (nI w) := by
  have h48 := I.1.1
  intro n
  induction n with
  | zero => intro q w h; omega
  | succ n ih =>
    intro q w h u hw
    by_cases q0 : q = 0
    · have e0 : ln q = 0 := by rw [q0]; exact I.1.2.2.2
      have t0 : t = 0 := by
        rcases u.2.2.2 with z | z
        · exact z
        · rw [e0, tq_sk0 I] at z
          omega
      rw [t0] at hp
      exact br_c (fun _ => hp) (fun _ => br_t (by rw [e0]; exact tq_m1) hp)
    · have hq := u.1
      have hl := I.2.2.2.2.2.2.1 q (by omega) (by omega)
      have hat := tq_yat Y hl.1 hl.2.1 h48 (x := tq_b (ln q)) (tq_bp hl.1)
      have hbs := (I.2.1 _ hl.1 hl.2.1).2.1
      refine br_f (nI_ge (b := 48) (by omega) (by omega)) (br_f (fun z => by have := (tq_bneg (by omega)).mp z; omega) ⟨hat.1, ?_⟩)
      refine tq_yfol I Y hr (by omega) hl.2.1 (fun _ => hl.2.2) hat.2.2.2 rfl (fun x g => ?_)
      rcases tq_bro I hr hi hT u (by omega) g with ⟨x0, b, b1, b2, bU⟩ | ⟨x1, xt⟩
      · refine br_t (by rw [x0]; exact tq_m1) ⟨hat.1, fun y ey z ez => ?_⟩
        rw [ey, ez, nI_1, hat.2.2.2, b2]
        exact ih b (w + 1) (by omega) bU (by omega)
      · refine br_f (fun z => ?_) ?_
        · have hG : x ≤ M := by
            rcases g with g | g
            · omega
            · exact g.2.1
          have := (tq_bneg (by omega)).mp z
          omega
        · rw [xt]
          exact hp
theorem tq_ynext (I : tq_PI M N og bs st kc ln dl) (Y : tq_YA M og bs st kc dl lt yo yi yl yt ys yk) {r i t : Nat} {x : Int32} (hr : r < 3) (h1 : 1 ≤ i) (hi : i ≤ N) (hk : tq_kn og kc r (ln i) = true) (hT : tq_T N ln (tq_kn og kc r) i t)
    (hx : x = tq_b (ln i)) {post : Int32 → Prop} (hp : post (tq_b t)) : wpY_next post (nI M, fs, yo, yi, yl, yt, ys, yk, yx) (nI r) x := by
  have h48 := I.1.1
  have hl := I.2.2.2.2.2.2.1 i h1 hi
  unfold wpY_next
  subst hx
  refine tq_yfol I Y (b := 0) hr hl.2.1 (Nat.zero_le _) (fun z => by omega) rfl rfl (fun x g => ?_)
  rcases tq_child I hr hi hT g with ⟨x0, xt⟩ | ⟨x1, xt⟩
  · refine br_t (by rw [x0]; exact tq_m1) ⟨ln i + 1, ?_⟩
    exact tq_ynext0 I Y hr hi hT hp (ln i + 1) i 0 (by omega) ⟨Nat.le_refl _, hk, fun m a b => by omega, xt⟩ (by omega)
  · refine br_f (fun z => ?_) ?_
    · have hG : x ≤ M := by
        rcases g with g | g
        · omega
        · exact g.2.1
      have := (tq_bneg (by omega)).mp z
      omega
    · rw [xt]
      exact hp
/-- the text that is laid out, up to place p of the line -/
def tq_TX (S : Nat → Bool) (ln : Nat → Nat) (p : Nat) (yx : Nat → Int32) : Prop := ∀ i, 1 ≤ i → i ≤ p → S i = true → yx (tq_c S (i - 1)) = nI (ln i - 1)
theorem tq_ylay0 (I : tq_PI M N og bs st kc ln dl) (Y : tq_YA M og bs st kc dl lt yo yi yl yt ys yk) {r : Nat} (hr : r < 3) {post : SY → Prop}
    (hp : ∀ yx', tq_TX (tq_S M og bs kc ln dl r) ln N yx' → post (nI M, nI (tq_c (tq_S M og bs kc ln dl r) N), yo, yi, yl, yt, ys, yk, yx')) :
    ∀ n p t w (yx : Nat → Int32), N - p < n → p ≤ N → w ≤ p → tq_T N ln (tq_kn og kc r) p t → tq_TX (tq_S M og bs kc ln dl r) ln p yx →
      wY_lay_15 post (nI r) (nI M) n (tq_b t) (nI w) (nI (tq_c (tq_S M og bs kc ln dl r) p)) yo yi yl yt ys yk yx := by
  have h48 := I.1.1
  have hN := tq_pN I
  intro n
  induction n with
  | zero => intro p t w yx h; omega
  | succ n ih =>
    intro p t w yx h hpN hw hT hX
    have hTT := hT
    have nS : ∀ m, tq_kn og kc r (ln m) = false → tq_S M og bs kc ln dl r m = false := fun m hm => by simp [tq_S, tq_se, hm]
    rcases hT with ⟨i', a1, a2, a3, a4, rfl⟩ | ⟨a4, rfl⟩
    · have hl := I.2.2.2.2.2.2.1 i' (by omega) a2
      have gap : tq_c (tq_S M og bs kc ln dl r) (i' - 1) = tq_c (tq_S M og bs kc ln dl r) p :=
        tq_cgap (i' - 1) (by omega) (fun e e1 e2 => nS e (a4 e e1 (by omega)))
      have cle := tq_cle (tq_S M og bs kc ln dl r) p
      obtain ⟨t', hT'⟩ := tq_Tex N ln (tq_kn og kc r) i'
      have gapX : ∀ m, p < m → m < i' → tq_S M og bs kc ln dl r m = true → False := fun m m1 m2 m3 => by
        rw [nS m (a4 m m1 m2)] at m3
        exact Bool.noConfusion m3
      obtain ⟨q, rfl⟩ : ∃ q, i' = q + 1 := ⟨i' - 1, by omega⟩
      rw [Nat.add_sub_cancel] at gap
      refine br_f (nI_ge (b := 48) (by omega) (by omega)) (br_f (fun z => by have := (tq_bneg (by omega)).mp z; omega) ⟨M + 1, tq_ygone0 I Y hr hl.2.1 rfl ?_ M 0 (by omega) rfl⟩)
      refine tq_br (fun g0 => ⟨vp_in_nI (by omega) (by omega), fun yx' ex fs' ef => ?_⟩) (fun g1 => ?_)
      · have s1 : tq_S M og bs kc ln dl r (q + 1) = true := by simp [tq_S, tq_se, a3, g0]
        refine tq_ynext I Y hr (by omega) a2 a3 hT' rfl ?_
        intro y ey
        rw [ey, ef, nI_1, nI_1]
        have := ih (q + 1) t' (w + 1) yx' (by omega) a2 (by omega) hT' (by
          intro i i1 i2 i3
          rw [ex, nI_clamp (by omega)]
          by_cases z : i = q + 1
          · rw [z, Nat.add_sub_cancel, gap, pk_us, tq_bp hl.1]
          · by_cases z2 : p < i
            · exact (gapX i z2 (by omega) i3).elim
            · have := tq_cpos (n := p) i1 (by omega) i3
              rw [pk_un (by omega)]
              exact hX i i1 (by omega) i3)
        rw [tq_cT s1, gap] at this
        exact this
      · have s0 : tq_S M og bs kc ln dl r (q + 1) = false := by simp [tq_S, tq_se, g1]
        refine tq_ynext I Y hr (by omega) a2 a3 hT' rfl ?_
        intro y ey
        rw [ey, nI_1]
        have := ih (q + 1) t' (w + 1) yx (by omega) a2 (by omega) hT' (by
          intro i i1 i2 i3
          by_cases z : i = q + 1
          · rw [z, s0] at i3
            exact Bool.noConfusion i3
          · by_cases z2 : p < i
            · exact (gapX i z2 (by omega) i3).elim
            · exact hX i i1 (by omega) i3)
        rw [tq_cF s0, gap] at this
        exact this
    · have gap : tq_c (tq_S M og bs kc ln dl r) N = tq_c (tq_S M og bs kc ln dl r) p :=
        tq_cgap N hpN (fun e e1 e2 => nS e (a4 e e1 e2))
      have fin := hp yx (by
        intro i i1 i2 i3
        by_cases z2 : p < i
        · rw [nS i (a4 i z2 i2)] at i3
          exact Bool.noConfusion i3
        · exact hX i i1 (by omega) i3)
      rw [gap] at fin
      exact br_c (fun _ => fin) (fun _ => br_t tq_m1 fin)
theorem tq_ylay (I : tq_PI M N og bs st kc ln dl) (Y : tq_YA M og bs st kc dl lt yo yi yl yt ys yk) {r : Nat} (hr : r < 3) {post : SY → Prop}
    (hp : ∀ yx', tq_TX (tq_S M og bs kc ln dl r) ln N yx' → post (nI M, nI (tq_c (tq_S M og bs kc ln dl r) N), yo, yi, yl, yt, ys, yk, yx')) :
    wpY_lay post (nI M, fs, yo, yi, yl, yt, ys, yk, yx) (nI r) := by
  have l0 := I.1.2.2.2
  unfold wpY_lay
  obtain ⟨t, hT⟩ := tq_Tex N ln (tq_kn og kc r) 0
  refine tq_yfol I Y (a := 0) (b := 0) hr (Nat.zero_le _) (Nat.zero_le _) (fun z => by omega) rfl rfl (fun x g => ?_)
  rw [← l0] at g
  have e : x = t := by
    rw [l0] at g
    rw [← l0] at g
    rcases tq_child I hr (Nat.zero_le _) hT (x := x) (by rw [l0] at g ⊢; exact g) with ⟨x0, xt⟩ | ⟨_, xt⟩
    · rcases xt with z | z
      · omega
      · rw [l0, tq_sk0 I] at z
        omega
    · exact xt
  rw [e]
  exact ⟨N + 1, tq_ylay0 I Y hr hp (N + 1) 0 t 0 yx (by omega) (Nat.zero_le _) (Nat.le_refl _) hT (fun i i1 i2 => by omega)⟩
theorem tq_ymx0 (I : tq_PI M N og bs st kc ln dl) (Y : tq_YA M og bs st kc dl lt yo yi yl yt ys yk) {r : Nat} (hr : r < 3)
    {post : Int32 → Prop} (hp : ∀ m, tq_Mx M st dl (tq_kn og kc r) m → post (nI m)) : ∀ k c m, c + k = M → (∀ e, 1 ≤ e → e ≤ c → dl e = false → tq_kn og kc r e = true → st e ≤ m) →
    (m = 0 ∨ ∃ e, 1 ≤ e ∧ e ≤ M ∧ dl e = false ∧ tq_kn og kc r e = true ∧ st e = m) → wY_greatest_4 post (nI r) (nI M) fs yo yi yl yt ys yk yx (k + 1) (nI m) (nI c) := by
  have h48 := I.1.1
  intro k
  induction k with
  | zero =>
    intro c m hc ha hb
    exact br_t (nI_le (by omega) (by omega)) (hp m ⟨fun e e1 e2 e3 e4 => ha e e1 (by omega) e3 e4, hb⟩)
  | succ k ih =>
    intro c m hc ha hb
    have hm : m ≤ 48 := by
      rcases hb with z | ⟨e, e1, e2, e3, e4, e5⟩
      · omega
      · have := (I.2.1 e e1 e2).2.2.2
        omega
    have hst := (I.2.1 (c + 1) (by omega) (by omega)).2.2.2
    have hin : vp_in (nI c) 48 := vp_in_nI (by omega) (by omega)
    refine br_f (nI_ge (by omega) (by omega)) (tq_yrow I Y (e := c + 1) hr (by omega) (by omega) rfl (tq_br (fun r0 => ?_) (fun r1 => ⟨hin, ?_⟩)))
    · intro y ey
      rw [ey, nI_1]
      refine ih (c + 1) m (by omega) (fun e e1 e2 e3 e4 => ?_) hb
      by_cases w : e = c + 1
      · rw [w] at e3 e4
        rw [e3, e4] at r0
        exact Bool.noConfusion r0
      · exact ha e e1 (by omega) e3 e4
    · have hk : tq_kn og kc r (c + 1) = true ∧ dl (c + 1) = false := by
        cases h1 : tq_kn og kc r (c + 1) <;> cases h2 : dl (c + 1) <;> simp_all
      have hys := (tq_yst Y (e := c + 1) (by omega) (by omega) hk.2 h48 (x := nI c) rfl).2
      refine pk_le (st (c + 1)) m (fun z => ?_) (fun z => ⟨hin, ?_⟩) hys rfl (by omega) (by omega)
      · intro y ey
        rw [ey, nI_1]
        refine ih (c + 1) m (by omega) (fun e e1 e2 e3 e4 => ?_) hb
        by_cases w : e = c + 1
        · rw [w]
          exact z
        · exact ha e e1 (by omega) e3 e4
      · intro v ev y ey
        rw [ey, ev, nI_1, hys]
        refine ih (c + 1) (st (c + 1)) (by omega) (fun e e1 e2 e3 e4 => ?_) (Or.inr ⟨c + 1, by omega, by omega, hk.2, hk.1, rfl⟩)
        by_cases w : e = c + 1
        · rw [w]
          exact Nat.le_refl _
        · have := ha e e1 (by omega) e3 e4
          omega
theorem tq_yrow0 (I : tq_PI M N og bs st kc ln dl) (Y : tq_YA M og bs st kc dl lt yo yi yl yt ys yk) {r : Nat} (hr : r < 3)
    {post : Int32 → Prop} (hp : post (nI (tq_c (fun e => tq_kn og kc r e && !dl e) M))) : ∀ k c, c + k = M → wY_row_13 post (nI r) (nI M) fs yo yi yl yt ys yk yx (k + 1) (nI (tq_c (fun e => tq_kn og kc r e && !dl e) c)) (nI c) := by
  have h48 := I.1.1
  intro k
  induction k with
  | zero =>
    intro c hc
    refine br_t (nI_le (by omega) (by omega)) ?_
    rw [show c = M by omega]
    exact hp
  | succ k ih =>
    intro c hc
    refine br_f (nI_ge (by omega) (by omega)) (tq_yrow I Y (e := c + 1) hr (by omega) (by omega) rfl (tq_br (fun r0 => ?_) (fun r1 => ?_)))
    · intro y ey
      rw [ey, nI_1]
      have := ih (c + 1) (by omega)
      rw [tq_cF (P := fun e => tq_kn og kc r e && !dl e) r0] at this
      exact this
    · intro z ez y ey
      rw [ey, ez, nI_1, nI_1]
      have := ih (c + 1) (by omega)
      rw [tq_cT (P := fun e => tq_kn og kc r e && !dl e) r1] at this
      exact this
theorem tq_ykn0 (I : tq_PI M N og bs st kc ln dl) (Y : tq_YA M og bs st kc dl lt yo yi yl yt ys yk) {r o : Nat} (hr : r < 3) (ho : o < 3)
    {post : Int32 → Prop} (hp : post (nI (tq_c (fun e => tq_kn og kc r e && decide (og e = o)) M))) : ∀ k c, c + k = M → wY_known_21 post (nI r) (nI o) (nI M) fs yo yi yl yt ys yk yx (k + 1) (nI (tq_c (fun e => tq_kn og kc r e && decide (og e = o)) c)) (nI c) := by
  have h48 := I.1.1
  intro k
  induction k with
  | zero =>
    intro c hc
    refine br_t (nI_le (by omega) (by omega)) ?_
    rw [show c = M by omega]
    exact hp
  | succ k ih =>
    intro c hc
    have hat := tq_yat Y (e := c + 1) (by omega) (by omega) h48 (x := nI c) rfl
    have hk := tq_yk I Y (e := c + 1) (x := nI c) hr (by omega) (by omega) rfl
    have hog := (I.2.1 (c + 1) (by omega) (by omega)).1
    have no : (tq_kn og kc r (c + 1) && decide (og (c + 1) = o)) = false → ∀ y : Int32, y = nI c + 1 → wY_known_21 post (nI r) (nI o) (nI M) fs yo yi yl yt ys yk yx (k + 1) (nI (tq_c (fun e => tq_kn og kc r e && decide (og e = o)) c)) y := fun z y ey => by
      rw [ey, nI_1]
      have := ih (c + 1) (by omega)
      rw [tq_cF (P := fun e => tq_kn og kc r e && decide (og e = o)) z] at this
      exact this
    refine br_f (nI_ge (by omega) (by omega)) ⟨hk.1, tq_bx hk.2 (fun k0 => no (by simp [k0])) (fun k1 => ⟨hat.1, pk_eq (og (c + 1)) o (fun e => ?_) (fun e => no (by simp [e])) hat.2.1 rfl (by omega) (by omega)⟩)⟩
    intro z ez y ey
    rw [ey, ez, nI_1, nI_1]
    have := ih (c + 1) (by omega)
    rw [tq_cT (P := fun e => tq_kn og kc r e && decide (og e = o)) (by simp [k1, e])] at this
    exact this
end
end
section
/-! the relation, and the calls that change nothing -/
def i_Rel (_ : Nat) (u : SX) (v : SY) : Prop :=
  ∃ (M N : Nat) (og bs st kc ln : Nat → Nat) (dl : Nat → Bool) (lt : Nat → Int32) (xo xn xd xb xl xs xL xk : Nat → Int32) (fs : Int32) (yo yi yl yt ys yk yx : Nat → Int32),
    tq_PI M N og bs st kc ln dl ∧ tq_XA M N og bs st kc ln dl lt xo xn xd xb xl xs xL xk ∧ tq_YA M og bs st kc dl lt yo yi yl yt ys yk ∧
    u = (nI M, nI N, xo, xn, xd, xb, xl, xs, xL, xk) ∧ v = (nI M, fs, yo, yi, yl, yt, ys, yk, yx)
theorem i_up {k : Nat} {u : SX} {v : SY} (h : i_Rel k u v) : i_Rel (k + 4) u v := h
theorem i_vc0 : wpX_init (fun u => wpY_init (fun v => i_Rel 0 u v)) := by
  refine ⟨0, 0, fun _ => 0, fun _ => 0, fun _ => 0, fun _ => 0, fun _ => 0, fun _ => false, fun _ => 0, fun _ => 0, fun _ => 0, fun _ => 0, fun _ => 0, fun _ => 0, fun _ => 0, fun _ => 0, fun _ => 0, 0, fun _ => 0, fun _ => 0, fun _ => 0, fun _ => 0, fun _ => 0, fun _ => 0, fun _ => 0, ?_, ?_, ?_, rfl, rfl⟩
  · refine ⟨⟨by omega, rfl, rfl, rfl⟩, fun e a b => by omega, fun e r a b => by omega, fun r o _ _ => Nat.zero_le _, fun o _ => rfl, fun e d a b => by omega, fun i a b => by omega, fun i a b => by omega, fun P => rfl⟩
  · exact ⟨fun c h => by omega, fun c h => by omega, fun i h => by omega, fun j _ => rfl⟩
  · refine ⟨fun c h => by omega, fun c h => by omega, fun r c _ _ => ?_⟩
    rw [show decide (c < 0) = false from decide_eq_false (by omega)]
    rfl
section
variable {M N : Nat} {og bs st kc ln : Nat → Nat} {dl : Nat → Bool} {lt : Nat → Int32} {xo xn xd xb xl xs xL xk : Nat → Int32} {fs : Int32} {yo yi yl yt ys yk yx : Nat → Int32}
theorem tq_mk (k : Nat) (I : tq_PI M N og bs st kc ln dl) (X : tq_XA M N og bs st kc ln dl lt xo xn xd xb xl xs xL xk) (Y : tq_YA M og bs st kc dl lt yo yi yl yt ys yk) (fs : Int32) (yx : Nat → Int32) :
    i_Rel k (nI M, nI N, xo, xn, xd, xb, xl, xs, xL, xk) (nI M, fs, yo, yi, yl, yt, ys, yk, yx) :=
  ⟨M, N, og, bs, st, kc, ln, dl, lt, xo, xn, xd, xb, xl, xs, xL, xk, fs, yo, yi, yl, yt, ys, yk, yx, I, X, Y, rfl, rfl⟩
theorem tq_10 : ¬ (1 : Int32) = 0 := by decide
theorem tq_ylen (I : tq_PI M N og bs st kc ln dl) (Y : tq_YA M og bs st kc dl lt yo yi yl yt ys yk) {r : Nat} (hr : r < 3) {post : Int32 → SY → Prop}
    (hp : ∀ fs' yx', post (nI (tq_c (tq_S M og bs kc ln dl r) N)) (nI M, fs', yo, yi, yl, yt, ys, yk, yx')) : wpY_length post (nI M, fs, yo, yi, yl, yt, ys, yk, yx) (nI r) := by
  unfold wpY_length
  exact tq_repY hr (br_t rfl (tq_ylay I Y hr (fun yx' _ => hp _ yx')))
theorem tq_kcount (I : tq_PI M N og bs st kc ln dl) {r o : Nat} (hr : r < 3) (ho : o < 3) : tq_c (fun e => tq_kn og kc r e && decide (og e = o)) M = kc (r * 3 + o) := by
  have a : ∀ n k, (k ≤ tq_c (tq_o og o) n → tq_c (fun e => decide (tq_c (tq_o og o) e ≤ k) && decide (og e = o)) n = k) ∧ (tq_c (tq_o og o) n ≤ k → tq_c (fun e => decide (tq_c (tq_o og o) e ≤ k) && decide (og e = o)) n = tq_c (tq_o og o) n) := by
    intro n k
    induction n with
    | zero => exact ⟨fun h => (Nat.le_zero.mp h).symm, fun _ => rfl⟩
    | succ n ih =>
      by_cases c : og (n + 1) = o
      · have t : tq_c (tq_o og o) (n + 1) = tq_c (tq_o og o) n + 1 := tq_cT (decide_eq_true c)
        by_cases z : tq_c (tq_o og o) (n + 1) ≤ k
        · have s : tq_c (fun e => decide (tq_c (tq_o og o) e ≤ k) && decide (og e = o)) (n + 1) = tq_c (fun e => decide (tq_c (tq_o og o) e ≤ k) && decide (og e = o)) n + 1 := tq_cT (by simp [z, c])
          have := ih.2 (by omega)
          omega
        · have s : tq_c (fun e => decide (tq_c (tq_o og o) e ≤ k) && decide (og e = o)) (n + 1) = tq_c (fun e => decide (tq_c (tq_o og o) e ≤ k) && decide (og e = o)) n := tq_cF (by simp [z])
          have := ih.1 (by omega)
          omega
      · have t : tq_c (tq_o og o) (n + 1) = tq_c (tq_o og o) n := tq_cF (decide_eq_false c)
        have s : tq_c (fun e => decide (tq_c (tq_o og o) e ≤ k) && decide (og e = o)) (n + 1) = tq_c (fun e => decide (tq_c (tq_o og o) e ≤ k) && decide (og e = o)) n := tq_cF (by simp [c])
        rw [t, s]
        exact ih
  rw [← (a M (kc (r * 3 + o))).1 (I.2.2.2.1 r o hr ho)]
  refine tq_ccong M (fun e _ _ => ?_)
  by_cases c : og e = o
  · subst c
    rfl
  · simp [c]
theorem tq_let (I : tq_PI M N og bs st kc ln dl) (X : tq_XA M N og bs st kc ln dl lt xo xn xd xb xl xs xL xk) (Y : tq_YA M og bs st kc dl lt yo yi yl yt ys yk) {r : Nat} (hr : r < 3) (x : Int32) :
    ∃ w : Int32, (∀ post : Int32 → Prop, post w → wpX_shownLetter post (nI M, nI N, xo, xn, xd, xb, xl, xs, xL, xk) (nI r) x) ∧
      (∀ (fs : Int32) (yx : Nat → Int32) (post : Int32 → SY → Prop), (∀ fs' yx', post w (nI M, fs', yo, yi, yl, yt, ys, yk, yx')) → wpY_letter post (nI M, fs, yo, yi, yl, yt, ys, yk, yx) (nI r) x) := by
  have h48 := I.1.1
  have hN := tq_pN I
  have hC := tq_cle (tq_S M og bs kc ln dl r) N
  rcases pk_ix x (n := tq_c (tq_S M og bs kc ln dl r) N) (by omega) with h | h | ⟨q, hq, rfl⟩
  · refine ⟨0, fun post hp => ?_, fun fs yx post hp => ?_⟩
    · unfold wpX_shownLetter
      exact tq_xsn I X hr (fun j hj e => tq_neg h j (by omega) e.symm) (br_t rfl hp)
    · unfold wpY_letter
      exact tq_repY hr (br_t rfl (tq_ylay I Y hr (fun yx' _ => br_t h (hp _ _))))
  · have h2 : ¬ x < nI (tq_c (tq_S M og bs kc ln dl r) N) := Int32.not_lt.mpr h
    refine ⟨0, fun post hp => ?_, fun fs yx post hp => ?_⟩
    · unfold wpX_shownLetter
      exact tq_xsn I X hr (fun j hj e => nI_ge hj (by omega) (by rw [e]; exact h)) (br_t rfl hp)
    · unfold wpY_letter
      exact tq_repY hr (br_t rfl (tq_ylay I Y hr (fun yx' _ => br_c (fun _ => hp _ _) (fun _ => br_f h2 (hp _ _)))))
  · obtain ⟨i, i1, i2, i3, i4⟩ := tq_cex hq
    have hl := I.2.2.2.2.2.2.1 i i1 i2
    have hin : vp_in (nI (ln i - 1)) 48 := vp_in_nI (by omega) (by omega)
    refine ⟨lt (ln i), fun post hp => ?_, fun fs yx post hp => ?_⟩
    · unfold wpX_shownLetter
      refine tq_xsi I X hr i1 i2 i3 (by rw [i4]) (br_f (fun e => tq_neg tq_m1 (ln i - 1) (by omega) e.symm) ⟨hin, ?_⟩)
      have := (X.2.1 (ln i - 1) (by omega) (by rw [Nat.sub_add_cancel hl.1]; exact hl.2.2)).1
      rw [nI_clamp (by omega), this, Nat.sub_add_cancel hl.1]
      exact hp
    · unfold wpY_letter
      refine tq_repY hr (br_t rfl (tq_ylay I Y hr (fun yx' tx => br_f (nI_pos (by omega)) (br_t (nI_lt hq (by omega)) ⟨vp_in_nI (by omega) (by omega), ?_⟩))))
      have e : yx' (nI q).toNatClampNeg = nI (ln i - 1) := by
        rw [nI_clamp (by omega), ← i4]
        exact tx i i1 i2 i3
      rw [e]
      refine ⟨hin, ?_⟩
      rw [(tq_yst Y hl.1 hl.2.1 hl.2.2 h48 rfl).1]
      exact hp _ _
theorem tq_ali (I : tq_PI M N og bs st kc ln dl) (X : tq_XA M N og bs st kc ln dl lt xo xn xd xb xl xs xL xk) (Y : tq_YA M og bs st kc dl lt yo yi yl yt ys yk) {a b C : Nat} (ha : a < 3) (hb : b < 3) (hC : C ≤ 48) : ∀ k i, i + k = C →
    ∃ w : Int32, (∀ post : Int32 → Prop, post w → wX_alike_36 post (nI a) (nI b) (nI C) (nI M) (nI N) xo xn xd xb xl xs xL xk (k + 1) (nI i)) ∧
      (∀ (fs : Int32) (yx : Nat → Int32) (post : Int32 → SY → Prop), (∀ fs' yx', post w (nI M, fs', yo, yi, yl, yt, ys, yk, yx')) → wY_alike_36 post (nI a) (nI b) (nI C) (k + 1) (nI i) (nI M) fs yo yi yl yt ys yk yx) := by
  intro k
  induction k with
  | zero =>
    intro i hi
    have h : nI C ≤ nI i := nI_le (by omega) (by omega)
    exact ⟨1, fun post hp => br_t h hp, fun fs yx post hp => br_t h (hp _ _)⟩
  | succ k ih =>
    intro i hi
    have h : ¬ nI C ≤ nI i := nI_ge (by omega) (by omega)
    obtain ⟨wa, ax, ay⟩ := tq_let I X Y ha (nI i)
    obtain ⟨wb, bx, bY⟩ := tq_let I X Y hb (nI i)
    by_cases e : wa = wb
    · obtain ⟨w, wx, wy⟩ := ih (i + 1) (by omega)
      refine ⟨w, fun post hp => br_f h (ax _ (bx _ (br_t e fun y ey => ?_))), fun fs yx post hp => br_f h (ay _ _ _ (fun fs1 yx1 => bY _ _ _ (fun fs2 yx2 => br_t e fun y ey => ?_)))⟩
      · rw [ey, nI_1]
        exact wx post hp
      · rw [ey, nI_1]
        exact wy _ _ post hp
    · exact ⟨0, fun post hp => br_f h (ax _ (bx _ (br_f e hp))), fun fs yx post hp => br_f h (ay _ _ _ (fun fs1 yx1 => bY _ _ _ (fun fs2 yx2 => br_f e (hp _ _))))⟩
end
theorem i_vc_length {k : Nat} {u : SX} {v : SY} (I : i_Rel k u v) (hk : k + 4 ≤ 2048) (v1 : Int32) : wpX_length (fun r => wpY_length (fun r' v' => r' = r ∧ i_Rel (k + 4) u v') v v1) u v1 := by
  obtain ⟨M, N, og, bs, st, kc, ln, dl, lt, xo, xn, xd, xb, xl, xs, xL, xk, fs, yo, yi, yl, yt, ys, yk, yx, P, X, Y, rfl, rfl⟩ := I
  unfold wpX_length
  rcases tq_rep v1 with ⟨r, hr, rfl⟩ | ⟨hX, hY⟩
  · exact tq_repX hr (br_f tq_10 (tq_xlen P X hr (tq_ylen P Y hr (fun fs' yx' => ⟨rfl, tq_mk _ P X Y _ _⟩))))
  · refine hX _ (br_t rfl ?_)
    unfold wpY_length
    exact hY _ (br_f tq_10 ⟨rfl, tq_mk _ P X Y _ _⟩)
theorem i_vc_letter {k : Nat} {u : SX} {v : SY} (I : i_Rel k u v) (hk : k + 4 ≤ 2048) (v1 : Int32) (v2 : Int32) : wpX_letter (fun r => wpY_letter (fun r' v' => r' = r ∧ i_Rel (k + 4) u v') v v1 v2) u v1 v2 := by
  obtain ⟨M, N, og, bs, st, kc, ln, dl, lt, xo, xn, xd, xb, xl, xs, xL, xk, fs, yo, yi, yl, yt, ys, yk, yx, P, X, Y, rfl, rfl⟩ := I
  unfold wpX_letter
  rcases tq_rep v1 with ⟨r, hr, rfl⟩ | ⟨hX, hY⟩
  · obtain ⟨w, wx, wy⟩ := tq_let P X Y hr v2
    exact tq_repX hr (br_f tq_10 (wx _ (wy _ _ _ (fun fs' yx' => ⟨rfl, tq_mk _ P X Y _ _⟩))))
  · refine hX _ (br_t rfl ?_)
    unfold wpY_letter
    exact hY _ (br_f tq_10 ⟨rfl, tq_mk _ P X Y _ _⟩)
theorem i_vc_row {k : Nat} {u : SX} {v : SY} (I : i_Rel k u v) (hk : k + 4 ≤ 2048) (v1 : Int32) : wpX_row (fun r => wpY_row (fun r' => r' = r ∧ i_Rel (k + 4) u v) v v1) u v1 := by
  obtain ⟨M, N, og, bs, st, kc, ln, dl, lt, xo, xn, xd, xb, xl, xs, xL, xk, fs, yo, yi, yl, yt, ys, yk, yx, P, X, Y, rfl, rfl⟩ := I
  unfold wpX_row
  rcases tq_rep v1 with ⟨r, hr, rfl⟩ | ⟨hX, hY⟩
  · refine tq_repX hr (br_f tq_10 ⟨N + 1, tq_xrow0 P X hr ?_ N 0 (by omega)⟩)
    unfold wpY_row
    refine tq_repY hr (br_t rfl ⟨M + 1, tq_yrow0 P Y hr ⟨?_, tq_mk _ P X Y _ _⟩ M 0 (by omega)⟩)
    rw [P.2.2.2.2.2.2.2.2 (tq_kn og kc r)]
    exact congrArg nI (tq_ccong M (fun e _ _ => Bool.and_comm _ _))
  · refine hX _ (br_t rfl ?_)
    unfold wpY_row
    exact hY _ (br_f tq_10 ⟨rfl, tq_mk _ P X Y _ _⟩)
theorem i_vc_known {k : Nat} {u : SX} {v : SY} (I : i_Rel k u v) (hk : k + 4 ≤ 2048) (v1 : Int32) (v2 : Int32) : wpX_known (fun r => wpY_known (fun r' => r' = r ∧ i_Rel (k + 4) u v) v v1 v2) u v1 v2 := by
  obtain ⟨M, N, og, bs, st, kc, ln, dl, lt, xo, xn, xd, xb, xl, xs, xL, xk, fs, yo, yi, yl, yt, ys, yk, yx, P, X, Y, rfl, rfl⟩ := I
  unfold wpX_known
  rcases tq_rep v1 with ⟨r, hr, rfl⟩ | ⟨hX, hY⟩
  · refine tq_repX hr (br_f tq_10 ?_)
    rcases tq_rep v2 with ⟨o, ho, rfl⟩ | ⟨hX, hY⟩
    · refine tq_repX ho (br_f tq_10 ?_)
      rw [tq_r3]
      refine ⟨vp_in_nI (by omega) (by omega), ?_⟩
      rw [nI_clamp (by omega), X.2.2.2 _ (by omega)]
      unfold wpY_known
      exact tq_repY hr (br_t rfl (tq_repY ho (br_t rfl ⟨M + 1, tq_ykn0 P Y hr ho ⟨congrArg nI (tq_kcount P hr ho), tq_mk _ P X Y _ _⟩ M 0 (by omega)⟩)))
    · refine hX _ (br_t rfl ?_)
      unfold wpY_known
      exact tq_repY hr (br_t rfl (hY _ (br_f tq_10 ⟨rfl, tq_mk _ P X Y _ _⟩)))
  · refine hX _ (br_t rfl ?_)
    unfold wpY_known
    exact hY _ (br_f tq_10 ⟨rfl, tq_mk _ P X Y _ _⟩)
theorem i_vc_alike {k : Nat} {u : SX} {v : SY} (I : i_Rel k u v) (hk : k + 4 ≤ 2048) (v1 : Int32) (v2 : Int32) : wpX_alike (fun r => wpY_alike (fun r' v' => r' = r ∧ i_Rel (k + 4) u v') v v1 v2) u v1 v2 := by
  obtain ⟨M, N, og, bs, st, kc, ln, dl, lt, xo, xn, xd, xb, xl, xs, xL, xk, fs, yo, yi, yl, yt, ys, yk, yx, P, X, Y, rfl, rfl⟩ := I
  unfold wpX_alike
  rcases tq_rep v1 with ⟨a, ha, rfl⟩ | ⟨hX, hY⟩
  · refine tq_repX ha (br_f tq_10 ?_)
    rcases tq_rep v2 with ⟨b, hb, rfl⟩ | ⟨hX, hY⟩
    · have h48 := P.1.1
      have hN := tq_pN P
      have ca := tq_cle (tq_S M og bs kc ln dl a) N
      have cb := tq_cle (tq_S M og bs kc ln dl b) N
      refine tq_repX hb (br_f tq_10 (tq_xlen P X ha (tq_xlen P X hb ?_)))
      by_cases e : tq_c (tq_S M og bs kc ln dl a) N = tq_c (tq_S M og bs kc ln dl b) N
      · obtain ⟨w, wx, wy⟩ := tq_ali P X Y ha hb (C := tq_c (tq_S M og bs kc ln dl a) N) (by omega) (tq_c (tq_S M og bs kc ln dl a) N) 0 (by omega)
        refine br_t (congrArg nI e) ⟨_, wx _ ?_⟩
        unfold wpY_alike
        exact tq_repY ha (br_t rfl (tq_repY hb (br_t rfl (tq_ylen P Y ha (fun fs1 yx1 => tq_ylen P Y hb (fun fs2 yx2 => br_t (congrArg nI e.symm) ⟨_, wy _ _ _ (fun fs' yx' => ⟨rfl, tq_mk _ P X Y _ _⟩)⟩))))))
      · refine br_f (fun z => e ((nI_eq (by omega) (by omega)).mp z)) ?_
        unfold wpY_alike
        exact tq_repY ha (br_t rfl (tq_repY hb (br_t rfl (tq_ylen P Y ha (fun fs1 yx1 => tq_ylen P Y hb (fun fs2 yx2 => br_f (fun z => e ((nI_eq (by omega) (by omega)).mp z).symm) ⟨rfl, tq_mk _ P X Y _ _⟩))))))
    · refine hX _ (br_t rfl ?_)
      unfold wpY_alike
      exact tq_repY ha (br_t rfl (hY _ (br_f tq_10 ⟨rfl, tq_mk _ P X Y _ _⟩)))
  · refine hX _ (br_t rfl ?_)
    unfold wpY_alike
    exact hY _ (br_f tq_10 ⟨rfl, tq_mk _ P X Y _ _⟩)
end
section
/-! deliver and sync: what is known grows, nothing else changes -/
theorem tq_nuinj {og : Nat → Nat} {d e : Nat} (d1 : 1 ≤ d) (e1 : 1 ≤ e) (ho : og d = og e) (h : tq_nu og d = tq_nu og e) : d = e := by
  have key : ∀ a b : Nat, 1 ≤ a → a < b → og a = og b → tq_nu og a < tq_nu og b := by
    intro a b a1 ab hab
    unfold tq_nu
    rw [hab]
    have s := tq_cstep (P := tq_o og (og b)) (e := b) (by omega) (decide_eq_true rfl)
    have m := tq_cmono (tq_o og (og b)) (m := a) (n := b - 1) (by omega)
    omega
  rcases Nat.lt_trichotomy d e with c | c | c
  · have := key d e d1 c ho
    omega
  · exact c
  · have := key e d e1 c ho.symm
    omega
section
variable {M N : Nat} {og bs st kc ln : Nat → Nat} {dl : Nat → Bool} {lt : Nat → Int32} {xo xn xd xb xl xs xL xk : Nat → Int32} {fs : Int32} {yo yi yl yt ys yk yx : Nat → Int32}
/-- the first change of f that t does not know has the next number -/
theorem tq_first (I : tq_PI M N og bs st kc ln dl) {f t e : Nat} (ht : t < 3) (hf : f < 3) (e1 : 1 ≤ e) (eM : e ≤ M) (ho : og e = f) (hk : tq_kn og kc t e = false)
    (hb : ∀ d, 1 ≤ d → d < e → og d = f → tq_kn og kc t d = true) : tq_nu og e = kc (t * 3 + f) + 1 := by
  have a : ¬ tq_nu og e ≤ kc (t * 3 + og e) := of_decide_eq_false hk
  rw [ho] at a
  have s : tq_nu og e = tq_c (tq_o og f) (e - 1) + 1 := by
    unfold tq_nu
    rw [ho]
    exact tq_cstep e1 (decide_eq_true ho)
  by_cases z : tq_c (tq_o og f) (e - 1) ≤ kc (t * 3 + f)
  · omega
  · obtain ⟨d, d1, d2, d3, d4⟩ := tq_cex (P := tq_o og f) (n := e - 1) (q := tq_c (tq_o og f) (e - 1) - 1) (by omega)
    have od : og d = f := of_decide_eq_true d3
    have kd : tq_nu og d ≤ kc (t * 3 + og d) := of_decide_eq_true (hb d d1 (by omega) od)
    have sd : tq_nu og d = tq_c (tq_o og f) (d - 1) + 1 := by
      unfold tq_nu
      rw [od]
      exact tq_cstep d1 d3
    rw [od] at kd
    omega
def tq_kc1 (kc : Nat → Nat) (j0 : Nat) : Nat → Nat := fun j => if j = j0 then kc j + 1 else kc j
theorem tq_kn1 (I : tq_PI M N og bs st kc ln dl) {f t e : Nat} (ht : t < 3) (hf : f < 3) (e1 : 1 ≤ e) (eM : e ≤ M) (ho : og e = f) (hn : tq_nu og e = kc (t * 3 + f) + 1) {r d : Nat} (hr : r < 3) (hd : og d < 3) :
    tq_kn og (tq_kc1 kc (t * 3 + f)) r d = true ↔ tq_kn og kc r d = true ∨ (r = t ∧ d = e) := by
  unfold tq_kn tq_kc1
  by_cases c : r * 3 + og d = t * 3 + f
  · have cr : r = t := by omega
    have co : og d = f := by omega
    rw [if_pos c]
    constructor
    · intro h
      have h' := of_decide_eq_true h
      by_cases z : tq_nu og d ≤ kc (r * 3 + og d)
      · exact Or.inl (decide_eq_true z)
      · right
        refine ⟨cr, ?_⟩
        by_cases d0 : d = 0
        · subst d0
          exact absurd (Nat.zero_le _) z
        · exact tq_nuinj (by omega) e1 (co.trans ho.symm) (by rw [c] at h' z; omega)
    · intro h
      refine decide_eq_true ?_
      rcases h with h | ⟨_, h⟩
      · have := of_decide_eq_true h
        omega
      · rw [c, h]
        omega
  · rw [if_neg c]
    constructor
    · exact Or.inl
    · intro h
      rcases h with h | ⟨h1, h2⟩
      · exact h
      · exact absurd (by rw [h1, h2, ho]) c
theorem tq_PI1 (I : tq_PI M N og bs st kc ln dl) {f t e : Nat} (ht : t < 3) (hf : f < 3) (e1 : 1 ≤ e) (eM : e ≤ M) (ho : og e = f) (hk : tq_kn og kc t e = false) (hn : tq_nu og e = kc (t * 3 + f) + 1) (hb : tq_kn og kc t (bs e) = true) :
    tq_PI M N og bs st (tq_kc1 kc (t * 3 + f)) ln dl := by
  have hM : tq_nu og e ≤ tq_c (tq_o og f) M := by
    unfold tq_nu
    rw [ho]
    exact tq_cmono _ eM
  have ogb : ∀ d, d ≤ M → og d < 3 := fun d h => by
    by_cases z : d = 0
    · rw [z, I.1.2.1]
      omega
    · exact (I.2.1 d (by omega) h).1
  refine ⟨I.1, I.2.1, fun d r d1 dM hr h => ?_, fun r o hr h => ?_, fun o h => ?_, I.2.2.2.2.2⟩
  · have bd := (I.2.1 d d1 dM).2.1
    refine (tq_kn1 I ht hf e1 eM ho hn hr (ogb _ (by omega))).mpr (Or.inl ?_)
    rcases (tq_kn1 I ht hf e1 eM ho hn hr (ogb _ dM)).mp h with z | ⟨z1, z2⟩
    · exact I.2.2.1 d r d1 dM hr z
    · rw [z1, z2]
      exact hb
  · unfold tq_kc1
    have := I.2.2.2.1 r o hr h
    by_cases c : r * 3 + o = t * 3 + f
    · rw [if_pos c, c, show o = f by omega]
      omega
    · rw [if_neg c]
      exact this
  · unfold tq_kc1
    have ow := I.2.2.2.2.1 o h
    by_cases c : o * 3 + o = t * 3 + f
    · exfalso
      have e3 : o = f := by omega
      have e4 : o = t := by omega
      have a : ¬ tq_nu og e ≤ kc (t * 3 + og e) := of_decide_eq_false hk
      rw [ho, ← c, ow, e3] at a
      omega
    · rw [if_neg c]
      exact ow
theorem tq_YA1 (I : tq_PI M N og bs st kc ln dl) (Y : tq_YA M og bs st kc dl lt yo yi yl yt ys yk) {f t e : Nat} (ht : t < 3) (hf : f < 3) (e1 : 1 ≤ e) (eM : e ≤ M) (ho : og e = f) (hn : tq_nu og e = kc (t * 3 + f) + 1) :
    tq_YA M og bs st (tq_kc1 kc (t * 3 + f)) dl lt yo yi yl yt ys (upd yk (48 * t + (e - 1)) (tq_01 true)) := by
  have h48 := I.1.1
  refine ⟨Y.1, Y.2.1, fun r c hr hc => ?_⟩
  by_cases z : 48 * r + c = 48 * t + (e - 1)
  · have zr : r = t := by omega
    have zc : c + 1 = e := by omega
    rw [z, pk_us, zc, decide_eq_true (show c < M by omega), (tq_kn1 I ht hf e1 eM ho hn hr (by omega)).mpr (Or.inr ⟨zr, rfl⟩)]
    rfl
  · rw [pk_un z, Y.2.2 r c hr hc]
    by_cases w : c < M
    · have i := tq_kn1 I ht hf e1 eM ho hn (d := c + 1) hr (I.2.1 (c + 1) (by omega) (by omega)).1
      cases q : tq_kn og kc r (c + 1)
      · cases q' : tq_kn og (tq_kc1 kc (t * 3 + f)) r (c + 1)
        · rfl
        · rcases i.mp q' with v | ⟨v1, v2⟩
          · rw [q] at v
            exact Bool.noConfusion v
          · exact absurd (by rw [v1]; omega) z
      · rw [i.mpr (Or.inl q)]
    · rw [decide_eq_false w]
      rfl
theorem tq_XA1 (X : tq_XA M N og bs st kc ln dl lt xo xn xd xb xl xs xL xk) {j0 : Nat} (hj : j0 < 9) : tq_XA M N og bs st (tq_kc1 kc j0) ln dl lt xo xn xd xb xl xs xL (upd xk j0 (xk j0 + 1)) := by
  refine ⟨X.1, X.2.1, X.2.2.1, fun j h => ?_⟩
  unfold tq_kc1
  by_cases c : j = j0
  · rw [c, pk_us, if_pos rfl, X.2.2.2 j0 hj, nI_1]
  · rw [pk_un c, if_neg c]
    exact X.2.2.2 j h
/-- the component's scan for the next number -/
theorem tq_xfu0 (I : tq_PI M N og bs st kc ln dl) (X : tq_XA M N og bs st kc ln dl lt xo xn xd xb xl xs xL xk) {f q e : Nat} (hf : f < 3) (hq : q ≤ 49)
    (h1 : ∀ d, 1 ≤ d → d ≤ M → og d = f → tq_nu og d = q → e ≤ d) (h2 : 1 ≤ e → e ≤ M → og e = f ∧ tq_nu og e = q) {post : Int32 → Prop} (hn : M < e → post (-1)) (hp : e ≤ M → post (nI (e - 1))) :
    ∀ k c, c + k = M → c < e → wX_firstUnknown_16 post (nI f) (nI q) (nI M) (nI N) xo xn xd xb xl xs xL xk (k + 1) (nI c) := by
  have h48 := I.1.1
  intro k
  induction k with
  | zero =>
    intro c hc he
    exact br_t (nI_le (by omega) (by omega)) (hn (by omega))
  | succ k ih =>
    intro c hc he
    have hin : vp_in (nI c) 48 := vp_in_nI (by omega) (by omega)
    have ec : (nI c).toNatClampNeg = c := nI_clamp (by omega)
    have hX := X.1 c (by omega)
    have hog := (I.2.1 (c + 1) (by omega) (by omega)).1
    have hnu := tq_nub og (c + 1)
    refine br_f (nI_ge (by omega) (by omega)) ⟨hin, pk_eq (og (c + 1)) f (fun a => ⟨hin, pk_eq (tq_nu og (c + 1)) q (fun b => ?_) (fun b => ?_) (by rw [ec]; exact hX.2.1) rfl (by omega) (by omega)⟩) (fun a => ?_) (by rw [ec]; exact hX.1) rfl (by omega) (by omega)⟩
    · have e0 : c + 1 = e := by
        have := h1 (c + 1) (by omega) (by omega) a b
        omega
      have := hp (by omega)
      rw [← e0] at this
      exact this
    · intro y ey
      rw [ey, nI_1]
      refine ih (c + 1) (by omega) ?_
      by_cases z : c + 1 = e
      · exact absurd (z ▸ (h2 (by omega) (by omega)).2) b
      · omega
    · intro y ey
      rw [ey, nI_1]
      refine ih (c + 1) (by omega) ?_
      by_cases z : c + 1 = e
      · exact absurd (z ▸ (h2 (by omega) (by omega)).1) a
      · omega
/-- the reference's scan for the first that is unknown -/
theorem tq_ydl0 (I : tq_PI M N og bs st kc ln dl) (Y : tq_YA M og bs st kc dl lt yo yi yl yt ys yk) {f t e : Nat} (hf : f < 3) (ht : t < 3)
    (h1 : ∀ d, 1 ≤ d → d ≤ M → og d = f → tq_kn og kc t d = false → e ≤ d) (h2 : 1 ≤ e → e ≤ M → og e = f ∧ tq_kn og kc t e = false) {post : Int32 → SY → Prop} (hn : M < e → post (-1) (nI M, fs, yo, yi, yl, yt, ys, yk, yx))
    (hy : e ≤ M → tq_kn og kc t (bs e) = false → post (-2) (nI M, fs, yo, yi, yl, yt, ys, yk, yx))
    (hp : e ≤ M → tq_kn og kc t (bs e) = true → post 0 (nI M, fs, yo, yi, yl, yt, ys, upd yk (48 * t + (e - 1)) (tq_01 true), yx)) :
    ∀ k c, c + k = M → c < e → wY_deliver_18 post (nI f) (nI t) (nI M) fs yo yi yl yt ys yk yx (k + 1) (nI c) := by
  have h48 := I.1.1
  intro k
  induction k with
  | zero =>
    intro c hc he
    exact br_t (nI_le (by omega) (by omega)) (hn (by omega))
  | succ k ih =>
    intro c hc he
    have hat := tq_yat Y (e := c + 1) (by omega) (by omega) h48 (x := nI c) rfl
    have hk := tq_yk I Y (e := c + 1) (x := nI c) ht (by omega) (by omega) rfl
    have hog := (I.2.1 (c + 1) (by omega) (by omega)).1
    have hbs := (I.2.1 (c + 1) (by omega) (by omega)).2.1
    refine br_f (nI_ge (by omega) (by omega)) ⟨hat.1, pk_eq (og (c + 1)) f (fun a => ⟨hk.1, tq_bx hk.2 (fun b => ?_) (fun b => ?_)⟩) (fun a => ?_) hat.2.1 rfl (by omega) (by omega)⟩
    · have e0 : c + 1 = e := by
        have := h1 (c + 1) (by omega) (by omega) a b
        omega
      subst e0
      have fin : tq_kn og kc t (bs (c + 1)) = true → wY_deliver_81 post (nI t) (nI c) (nI M) fs yo yi yl yt ys yk yx := fun w => by
        refine ⟨hk.1, fun yk' ek => ?_⟩
        have := hp (by omega) w
        rw [ek, tq_bo1, tq_r48, nI_clamp (by omega)]
        exact this
      refine ⟨hat.1, tq_bl (by omega) hat.2.2.2 (fun b0 => fin (by rw [b0]; exact tq_kn0 I t)) (fun b1 => ⟨hat.1, ?_⟩)⟩
      have hkb := tq_yk I Y ht b1 (by omega) (hat.2.2.2.trans (tq_bp b1))
      exact ⟨hkb.1, tq_bx hkb.2 (fun w => hy (by omega) w) fin⟩
    · intro y ey
      rw [ey, nI_1]
      refine ih (c + 1) (by omega) ?_
      by_cases z : c + 1 = e
      · rw [z, (h2 (by omega) (by omega)).2] at b
        exact Bool.noConfusion b
      · omega
    · intro y ey
      rw [ey, nI_1]
      refine ih (c + 1) (by omega) ?_
      by_cases z : c + 1 = e
      · exact absurd (z ▸ (h2 (by omega) (by omega)).1) a
      · omega
/-- the first of f's changes that t lacks, or M + 1 -/
theorem tq_lack (M : Nat) (og kc : Nat → Nat) (f t : Nat) : ∃ e, 1 ≤ e ∧ (∀ d, 1 ≤ d → d ≤ M → og d = f → tq_kn og kc t d = false → e ≤ d) ∧ (1 ≤ e → e ≤ M → og e = f ∧ tq_kn og kc t e = false) := by
  by_cases z : ∃ e, 1 ≤ e ∧ e ≤ M ∧ og e = f ∧ tq_kn og kc t e = false
  · obtain ⟨e, ⟨e1, eM, eo, ek⟩, h⟩ := pk_least _ z
    refine ⟨e, e1, fun d d1 dM dO dk => ?_, fun _ _ => ⟨eo, ek⟩⟩
    by_cases w : d < e
    · exact absurd ⟨d1, dM, dO, dk⟩ (h d w)
    · omega
  · refine ⟨M + 1, by omega, fun d d1 dM dO dk => absurd ⟨d, d1, dM, dO, dk⟩ z, fun _ h => by omega⟩
end
theorem i_vc_deliver {k : Nat} {u : SX} {v : SY} (I : i_Rel k u v) (hk : k + 4 ≤ 2048) (v1 : Int32) (v2 : Int32) : wpX_deliver (fun r u' => wpY_deliver (fun r' v' => r' = r ∧ i_Rel (k + 4) u' v') v v1 v2) u v1 v2 := by
  obtain ⟨M, N, og, bs, st, kc, ln, dl, lt, xo, xn, xd, xb, xl, xs, xL, xk, fs, yo, yi, yl, yt, ys, yk, yx, P, X, Y, rfl, rfl⟩ := I
  unfold wpX_deliver
  rcases tq_rep v1 with ⟨f, hf, rfl⟩ | ⟨hX, hY⟩
  · refine tq_repX hf (br_f tq_10 ?_)
    rcases tq_rep v2 with ⟨t, ht, rfl⟩ | ⟨hX, hY⟩
    · refine tq_repX ht (br_f tq_10 ?_)
      have h48 := P.1.1
      obtain ⟨e, e1, hl1, hl2⟩ := tq_lack M og kc f t
      have hkc := tq_kcb P ht hf
      have hnum : e ≤ M → tq_nu og e = kc (t * 3 + f) + 1 := fun eM =>
        tq_first P ht hf e1 eM (hl2 e1 eM).1 (hl2 e1 eM).2 (fun d d1 dE dO => by
          cases q : tq_kn og kc t d
          · have := hl1 d d1 (by omega) dO q
            omega
          · rfl)
      have hX1 : ∀ d, 1 ≤ d → d ≤ M → og d = f → tq_nu og d = kc (t * 3 + f) + 1 → e ≤ d := fun d d1 dM dO dn =>
        hl1 d d1 dM dO (decide_eq_false (by rw [dO]; omega))
      -- the reference, whatever the answer
      have Yrun : ∀ post : Int32 → SY → Prop, (M < e → post (-1) (nI M, fs, yo, yi, yl, yt, ys, yk, yx)) → (e ≤ M → tq_kn og kc t (bs e) = false → post (-2) (nI M, fs, yo, yi, yl, yt, ys, yk, yx)) →
          (e ≤ M → tq_kn og kc t (bs e) = true → post 0 (nI M, fs, yo, yi, yl, yt, ys, upd yk (48 * t + (e - 1)) (tq_01 true), yx)) → wpY_deliver post (nI M, fs, yo, yi, yl, yt, ys, yk, yx) (nI f) (nI t) := by
        intro post a b c
        unfold wpY_deliver
        exact tq_repY hf (br_t rfl (tq_repY ht (br_t rfl ⟨M + 1, tq_ydl0 P Y hf ht hl1 hl2 a b c M 0 (by omega) (by omega)⟩)))
      have hidx : nI t * 3 + nI f = nI (t * 3 + f) := tq_r3
      have hin9 : vp_in (nI t * 3 + nI f) 9 := by rw [hidx]; exact vp_in_nI (by omega) (by omega)
      have hcl : (nI t * 3 + nI f).toNatClampNeg = t * 3 + f := by rw [hidx]; exact nI_clamp (by omega)
      refine ⟨hin9, fun y ey => ?_⟩
      rw [hcl, X.2.2.2 _ (by omega), nI_1] at ey
      rw [ey]
      refine ⟨M + 1, tq_xfu0 P X hf (by omega) hX1 (fun a b => ⟨(hl2 a b).1, hnum b⟩) (fun ov => ?_) (fun eM => ?_) M 0 (by omega) (by omega)⟩
      · exact br_t rfl (Yrun _ (fun _ => ⟨rfl, tq_mk _ P X Y _ _⟩) (fun w => by omega) (fun w => by omega))
      · have hE := hl2 e1 eM
        have hin : vp_in (nI (e - 1)) 48 := vp_in_nI (by omega) (by omega)
        have hbs := (P.2.1 e e1 eM).2.1
        have hxb : xb (nI (e - 1)).toNatClampNeg = tq_b (bs e) := by
          rw [nI_clamp (by omega)]
          have := (X.1 (e - 1) (by omega)).2.2.2
          rw [Nat.sub_add_cancel e1] at this
          exact this
        have fin : tq_kn og kc t (bs e) = true → wX_deliver_57 (fun r u' => wpY_deliver (fun r' v' => r' = r ∧ i_Rel (k + 4) u' v') (nI M, fs, yo, yi, yl, yt, ys, yk, yx) (nI f) (nI t)) (nI f) (nI t) (nI M) (nI N) xo xn xd xb xl xs xL xk := fun w => by
          refine ⟨hin9, hin9, fun xk' ek => ?_⟩
          rw [hcl] at ek
          rw [ek]
          exact Yrun _ (fun z => by omega) (fun _ z => by rw [w] at z; exact Bool.noConfusion z)
            (fun _ _ => ⟨rfl, tq_mk _ (tq_PI1 P ht hf e1 eM hE.1 hE.2 (hnum eM) w) (tq_XA1 X (by omega)) (tq_YA1 P Y ht hf e1 eM hE.1 (hnum eM)) _ _⟩)
        refine br_f (fun z => tq_neg tq_m1 (e - 1) (by omega) z.symm) ⟨hin, fun b eb => ?_⟩
        rw [hxb] at eb
        refine tq_be (d := bs e) (e := 0) (by omega) (by omega) eb rfl (fun b0 => fin (by rw [b0]; exact tq_kn0 P t)) (fun b1 => ?_)
        refine tq_xknows P X ht (e := bs e) (by omega) (by omega) (eb.trans (tq_bp (by omega))) (tq_br (fun w => ?_) fin)
        exact Yrun _ (fun z => by omega) (fun _ _ => ⟨rfl, tq_mk _ P X Y _ _⟩) (fun _ z => by rw [w] at z; exact Bool.noConfusion z)
    · refine hX _ (br_t rfl ?_)
      unfold wpY_deliver
      exact tq_repY hf (br_t rfl (hY _ (br_f tq_10 ⟨rfl, tq_mk _ P X Y _ _⟩)))
  · refine hX _ (br_t rfl ?_)
    unfold wpY_deliver
    exact hY _ (br_f tq_10 ⟨rfl, tq_mk _ P X Y _ _⟩)
end
section
/-! sync: the greater of the two counts, origin by origin -/
def tq_kcs (kc : Nat → Nat) (f t o : Nat) : Nat → Nat := fun j => if t * 3 ≤ j ∧ j < t * 3 + o ∧ kc j < kc (f * 3 + (j - t * 3)) then kc (f * 3 + (j - t * 3)) else kc j
section
variable {M N : Nat} {og bs st kc ln : Nat → Nat} {dl : Nat → Bool} {lt : Nat → Int32} {xo xn xd xb xl xs xL xk : Nat → Int32} {fs : Int32} {yo yi yl yt ys yk yx : Nat → Int32}
theorem tq_kns (I : tq_PI M N og bs st kc ln dl) {f t r e : Nat} (hf : f < 3) (ht : t < 3) (hr : r < 3) (he : og e < 3) :
    tq_kn og (tq_kcs kc f t 3) r e = (tq_kn og kc r e || (decide (r = t) && tq_kn og kc f e)) := by
  unfold tq_kn tq_kcs
  by_cases c : r = t
  · rw [c, show t * 3 + og e - t * 3 = og e by omega, decide_eq_true (rfl : t = t), Bool.true_and]
    by_cases z : kc (t * 3 + og e) < kc (f * 3 + og e)
    · rw [if_pos ⟨by omega, by omega, z⟩]
      by_cases w : tq_nu og e ≤ kc (t * 3 + og e)
      · rw [decide_eq_true w, decide_eq_true (show tq_nu og e ≤ kc (f * 3 + og e) by omega)]
        rfl
      · rw [decide_eq_false w, Bool.false_or]
    · rw [if_neg (fun h => z h.2.2)]
      by_cases w : tq_nu og e ≤ kc (f * 3 + og e)
      · rw [decide_eq_true w, decide_eq_true (show tq_nu og e ≤ kc (t * 3 + og e) by omega)]
        rfl
      · rw [decide_eq_false w, Bool.or_false]
  · rw [if_neg (fun h => c (by omega)), decide_eq_false c, Bool.false_and, Bool.or_false]
theorem tq_PIs (I : tq_PI M N og bs st kc ln dl) {f t : Nat} (hf : f < 3) (ht : t < 3) : tq_PI M N og bs st (tq_kcs kc f t 3) ln dl := by
  have ogb : ∀ d, d ≤ M → og d < 3 := fun d h => by
    by_cases z : d = 0
    · rw [z, I.1.2.1]
      omega
    · exact (I.2.1 d (by omega) h).1
  refine ⟨I.1, I.2.1, fun d r d1 dM hr h => ?_, fun r o hr h => ?_, fun o h => ?_, I.2.2.2.2.2⟩
  · have bd := (I.2.1 d d1 dM).2.1
    rw [tq_kns I hf ht hr (ogb d dM)] at h
    rw [tq_kns I hf ht hr (ogb _ (by omega))]
    cases q : tq_kn og kc r d
    · rw [q, Bool.false_or] at h
      cases q2 : tq_kn og kc f d
      · rw [q2, Bool.and_false] at h
        exact Bool.noConfusion h
      · rw [q2, Bool.and_true] at h
        rw [I.2.2.1 d f d1 dM hf q2, h, Bool.and_self, Bool.or_true]
    · rw [I.2.2.1 d r d1 dM hr q, Bool.true_or]
  · unfold tq_kcs
    by_cases c : t * 3 ≤ r * 3 + o ∧ r * 3 + o < t * 3 + 3 ∧ kc (r * 3 + o) < kc (f * 3 + (r * 3 + o - t * 3))
    · rw [if_pos c, show r * 3 + o - t * 3 = o by omega]
      exact I.2.2.2.1 f o hf h
    · rw [if_neg c]
      exact I.2.2.2.1 r o hr h
  · unfold tq_kcs
    have ow := I.2.2.2.2.1 o h
    by_cases c : t * 3 ≤ o * 3 + o ∧ o * 3 + o < t * 3 + 3 ∧ kc (o * 3 + o) < kc (f * 3 + (o * 3 + o - t * 3))
    · exfalso
      have c3 := c.2.2
      rw [show o * 3 + o - t * 3 = o by omega] at c3
      have := I.2.2.2.1 f o hf h
      omega
    · rw [if_neg c]
      exact ow
theorem tq_xsy0 (I : tq_PI M N og bs st kc ln dl) {f t : Nat} (hf : f < 3) (ht : t < 3) {post : Int32 → SX → Prop}
    (hp : ∀ xk' : Nat → Int32, (∀ j, j < 9 → xk' j = nI (tq_kcs kc f t 3 j)) → post 0 (nI M, nI N, xo, xn, xd, xb, xl, xs, xL, xk')) :
    ∀ k o (xk : Nat → Int32), o + k = 3 → (∀ j, j < 9 → xk j = nI (tq_kcs kc f t o j)) → wX_sync_18 post (nI f) (nI t) (nI M) (nI N) (k + 1) (nI o) xo xn xd xb xl xs xL xk := by
  have h48 := I.1.1
  intro k
  induction k with
  | zero =>
    intro o xk ho hk
    rw [show o = 3 by omega] at hk ⊢
    exact br_t (nI_le (a := 3) (b := 3) (by omega) (by omega)) (hp xk hk)
  | succ k ih =>
    intro o xk ho hk
    have e1 : nI f * 3 + nI o = nI (f * 3 + o) := tq_r3
    have e2 : nI t * 3 + nI o = nI (t * 3 + o) := tq_r3
    have c1 : (nI f * 3 + nI o).toNatClampNeg = f * 3 + o := by rw [e1]; exact nI_clamp (by omega)
    have c2 : (nI t * 3 + nI o).toNatClampNeg = t * 3 + o := by rw [e2]; exact nI_clamp (by omega)
    have i1 : vp_in (nI f * 3 + nI o) 9 := by rw [e1]; exact vp_in_nI (by omega) (by omega)
    have i2 : vp_in (nI t * 3 + nI o) 9 := by rw [e2]; exact vp_in_nI (by omega) (by omega)
    have bf := tq_kcb I hf (o := o) (by omega)
    have bt := tq_kcb I ht (o := o) (by omega)
    have vf : xk (f * 3 + o) = nI (kc (f * 3 + o)) := by
      rw [hk _ (by omega)]
      unfold tq_kcs
      rw [if_neg (fun h => by omega)]
    have vt : xk (t * 3 + o) = nI (kc (t * 3 + o)) := by
      rw [hk _ (by omega)]
      unfold tq_kcs
      rw [if_neg (fun h => by omega)]
    refine br_f (nI_ge (b := 3) (by omega) (by omega)) ⟨i1, fun y ey => ⟨i2, ?_⟩⟩
    rw [c1, vf] at ey
    refine pk_le (kc (f * 3 + o)) (kc (t * 3 + o)) (fun z => ?_) (fun z => ⟨i2, fun xk' ek w ew => ?_⟩) ey (by rw [c2, vt]) (by omega) (by omega)
    · intro w ew
      rw [ew, nI_1]
      refine ih (o + 1) xk (by omega) (fun j hj => ?_)
      rw [hk j hj]
      unfold tq_kcs
      by_cases c : j = t * 3 + o
      · subst c
        rw [if_neg (fun h => by omega), if_neg (fun h => by
          have h3 := h.2.2
          rw [show t * 3 + o - t * 3 = o by omega] at h3
          omega)]
      · by_cases d : t * 3 ≤ j ∧ j < t * 3 + o ∧ kc j < kc (f * 3 + (j - t * 3))
        · rw [if_pos d, if_pos ⟨d.1, by omega, d.2.2⟩]
        · rw [if_neg d, if_neg (fun h => d ⟨h.1, by omega, h.2.2⟩)]
    · rw [ew, nI_1]
      refine ih (o + 1) xk' (by omega) (fun j hj => ?_)
      rw [ek, c2]
      by_cases c : j = t * 3 + o
      · subst c
        rw [pk_us, ey]
        unfold tq_kcs
        rw [show t * 3 + o - t * 3 = o by omega, if_pos ⟨by omega, by omega, z⟩]
      · rw [pk_un c, hk j hj]
        unfold tq_kcs
        by_cases d : t * 3 ≤ j ∧ j < t * 3 + o ∧ kc j < kc (f * 3 + (j - t * 3))
        · rw [if_pos d, if_pos ⟨d.1, by omega, d.2.2⟩]
        · rw [if_neg d, if_neg (fun h => d ⟨h.1, by omega, h.2.2⟩)]
theorem tq_ysy0 (I : tq_PI M N og bs st kc ln dl) {f t : Nat} (hf : f < 3) (ht : t < 3) {post : Int32 → SY → Prop}
    (hp : ∀ yk' : Nat → Int32, (∀ r c, r < 3 → c < 48 → yk' (48 * r + c) = tq_01 (decide (c < M) && (tq_kn og kc r (c + 1) || (decide (r = t) && tq_kn og kc f (c + 1))))) → post 0 (nI M, fs, yo, yi, yl, yt, ys, yk', yx)) :
    ∀ k c (yk : Nat → Int32), c + k = M → (∀ r d, r < 3 → d < 48 → yk (48 * r + d) = tq_01 (decide (d < M) && (tq_kn og kc r (d + 1) || (decide (r = t ∧ d < c) && tq_kn og kc f (d + 1))))) →
      wY_sync_18 post (nI f) (nI t) (nI M) fs (k + 1) (nI c) yo yi yl yt ys yk yx := by
  have h48 := I.1.1
  intro k
  induction k with
  | zero =>
    intro c yk hc hk
    refine br_t (nI_le (by omega) (by omega)) (hp yk (fun r d hr hd => ?_))
    rw [hk r d hr hd]
    by_cases z : d < M
    · rw [show decide (r = t ∧ d < c) = decide (r = t) from by simp [show d < c by omega]]
    · rw [decide_eq_false z, Bool.false_and, Bool.false_and]
  | succ k ih =>
    intro c yk hc hk
    have e1 : 48 * nI f + nI c = nI (48 * f + c) := tq_r48
    have e2 : 48 * nI t + nI c = nI (48 * t + c) := tq_r48
    have c1 : (48 * nI f + nI c).toNatClampNeg = 48 * f + c := by rw [e1]; exact nI_clamp (by omega)
    have c2 : (48 * nI t + nI c).toNatClampNeg = 48 * t + c := by rw [e2]; exact nI_clamp (by omega)
    have i1 : vp_in (48 * nI f + nI c) 144 := by rw [e1]; exact vp_in_nI (by omega) (by omega)
    have i2 : vp_in (48 * nI t + nI c) 144 := by rw [e2]; exact vp_in_nI (by omega) (by omega)
    have vf : yk (48 * nI f + nI c).toNatClampNeg = tq_01 (tq_kn og kc f (c + 1)) := by
      rw [c1, hk f c hf (by omega), decide_eq_true (show c < M by omega), decide_eq_false (show ¬ (f = t ∧ c < c) from fun h => by omega), Bool.false_and, Bool.or_false, Bool.true_and]
    have keep : ∀ r d, (r = t → d ≠ c) → decide (r = t ∧ d < c + 1) = decide (r = t ∧ d < c) := fun r d h => by
      by_cases z : r = t
      · have := h z
        by_cases w : d < c
        · rw [decide_eq_true (show r = t ∧ d < c from ⟨z, w⟩), decide_eq_true (show r = t ∧ d < c + 1 from ⟨z, by omega⟩)]
        · rw [decide_eq_false (show ¬ (r = t ∧ d < c) from fun q => w q.2), decide_eq_false (show ¬ (r = t ∧ d < c + 1) from fun q => by omega)]
      · rw [decide_eq_false (fun q => z q.1), decide_eq_false (fun q => z q.1)]
    refine br_f (nI_ge (by omega) (by omega)) ⟨i1, tq_bx vf (fun k0 => ?_) (fun k1 => ⟨i2, fun yk' ek y ey => ?_⟩)⟩
    · intro y ey
      rw [ey, nI_1]
      refine ih (c + 1) yk (by omega) (fun r d hr hd => ?_)
      rw [hk r d hr hd]
      by_cases z : d = c
      · rw [z, k0, Bool.and_false, Bool.and_false]
      · rw [keep r d (fun _ => z)]
    · rw [ey, nI_1]
      refine ih (c + 1) yk' (by omega) (fun r d hr hd => ?_)
      rw [ek, c2, tq_bo1]
      by_cases z : 48 * r + d = 48 * t + c
      · have zr : r = t := by omega
        have zd : d = c := by omega
        rw [z, pk_us, zr, zd, k1, decide_eq_true (show c < M by omega), decide_eq_true (show t = t ∧ c < c + 1 from ⟨rfl, by omega⟩), Bool.true_and, Bool.true_and, Bool.or_true]
      · rw [pk_un z, hk r d hr hd, keep r d (fun h1 h2 => z (by omega))]
end
theorem i_vc_sync {k : Nat} {u : SX} {v : SY} (I : i_Rel k u v) (hk : k + 4 ≤ 2048) (v1 : Int32) (v2 : Int32) : wpX_sync (fun r u' => wpY_sync (fun r' v' => r' = r ∧ i_Rel (k + 4) u' v') v v1 v2) u v1 v2 := by
  obtain ⟨M, N, og, bs, st, kc, ln, dl, lt, xo, xn, xd, xb, xl, xs, xL, xk, fs, yo, yi, yl, yt, ys, yk, yx, P, X, Y, rfl, rfl⟩ := I
  unfold wpX_sync
  rcases tq_rep v1 with ⟨f, hf, rfl⟩ | ⟨hX, hY⟩
  · refine tq_repX hf (br_f tq_10 ?_)
    rcases tq_rep v2 with ⟨t, ht, rfl⟩ | ⟨hX, hY⟩
    · refine tq_repX ht (br_f tq_10 ⟨4, tq_xsy0 P hf ht (fun xk' hx => ?_) 3 0 xk rfl (fun j hj => ?_)⟩)
      · unfold wpY_sync
        refine tq_repY hf (br_t rfl (tq_repY ht (br_t rfl ⟨M + 1, tq_ysy0 P hf ht (fun yk' hy => ?_) M 0 yk (by omega) (fun r d hr hd => ?_)⟩)))
        · refine ⟨rfl, tq_mk _ (tq_PIs P hf ht) ⟨X.1, X.2.1, X.2.2.1, hx⟩ ⟨Y.1, Y.2.1, fun r c hr hc => ?_⟩ _ _⟩
          rw [hy r c hr hc]
          by_cases z : c < M
          · rw [tq_kns P hf ht hr (P.2.1 (c + 1) (by omega) (by omega)).1]
          · rw [decide_eq_false z, Bool.false_and, Bool.false_and]
        · rw [Y.2.2 r d hr hd, decide_eq_false (show ¬ (r = t ∧ d < 0) from fun h => by omega), Bool.false_and, Bool.or_false]
      · rw [X.2.2.2 j hj]
        unfold tq_kcs
        rw [if_neg (fun h => by omega)]
    · refine hX _ (br_t rfl ?_)
      unfold wpY_sync
      exact tq_repY hf (br_t rfl (hY _ (br_f tq_10 ⟨rfl, tq_mk _ P X Y _ _⟩)))
  · refine hX _ (br_t rfl ?_)
    unfold wpY_sync
    exact hY _ (br_f tq_10 ⟨rfl, tq_mk _ P X Y _ _⟩)
end
section
/-! one change more: the pictures -/
def tq_up {α : Type} (f : Nat → α) (k : Nat) (x : α) : Nat → α := fun j => if j = k then x else f j
theorem tq_us {α : Type} {f : Nat → α} {k : Nat} {x : α} : tq_up f k x k = x := if_pos rfl
theorem tq_un {α : Type} {f : Nat → α} {k j : Nat} {x : α} (h : j ≠ k) : tq_up f k x j = f j := if_neg h
/-- the line with e behind the place p -/
def tq_ins (ln : Nat → Nat) (p e : Nat) : Nat → Nat := fun i => if i ≤ p then ln i else if i = p + 1 then e else ln (i - 1)
theorem tq_ins1 {ln : Nat → Nat} {p e i : Nat} (h : i ≤ p) : tq_ins ln p e i = ln i := if_pos h
theorem tq_ins2 {ln : Nat → Nat} {p e : Nat} : tq_ins ln p e (p + 1) = e := by
  unfold tq_ins
  rw [if_neg (by omega), if_pos rfl]
theorem tq_ins3 {ln : Nat → Nat} {p e i : Nat} (h : p < i) : tq_ins ln p e (i + 1) = ln i := by
  unfold tq_ins
  rw [if_neg (by omega), if_neg (by omega), Nat.add_sub_cancel]
theorem tq_insc (ln : Nat → Nat) (p e : Nat) (P : Nat → Bool) (n : Nat) : (n ≤ p → tq_c (fun i => P (tq_ins ln p e i)) n = tq_c (fun i => P (ln i)) n) ∧
    (p ≤ n → tq_c (fun i => P (tq_ins ln p e i)) (n + 1) = tq_c (fun i => P (ln i)) n + (if P e = true then 1 else 0)) := by
  have a : ∀ n, n ≤ p → tq_c (fun i => P (tq_ins ln p e i)) n = tq_c (fun i => P (ln i)) n := fun n h => tq_ccong n (fun i _ hi => by rw [tq_ins1 (by omega)])
  refine ⟨a n, ?_⟩
  induction n with
  | zero =>
    intro h
    have h0 : p = 0 := by omega
    subst h0
    show 0 + (if P (tq_ins ln 0 e (0 + 1)) = true then 1 else 0) = 0 + (if P e = true then 1 else 0)
    rw [tq_ins2]
  | succ n ih =>
    intro h
    by_cases z : p = n + 1
    · show tq_c (fun i => P (tq_ins ln p e i)) (n + 1) + (if P (tq_ins ln p e (n + 1 + 1)) = true then 1 else 0) = _
      rw [a (n + 1) (by omega), ← z, tq_ins2]
    · show tq_c (fun i => P (tq_ins ln p e i)) (n + 1) + (if P (tq_ins ln p e (n + 1 + 1)) = true then 1 else 0) = tq_c (fun i => P (ln i)) n + (if P (ln (n + 1)) = true then 1 else 0) + (if P e = true then 1 else 0)
      rw [ih (by omega), tq_ins3 (by omega)]
      omega
section
variable {M N : Nat} {og bs st kc ln : Nat → Nat} {dl : Nat → Bool}
theorem tq_cup {r o n : Nat} (hn : n ≤ M) : tq_c (tq_o (tq_up og (M + 1) r) o) n = tq_c (tq_o og o) n :=
  tq_ccong n (fun e _ h => by unfold tq_o; rw [tq_un (by omega)])
theorem tq_cup1 {r o : Nat} : tq_c (tq_o (tq_up og (M + 1) r) o) (M + 1) = tq_c (tq_o og o) M + (if r = o then 1 else 0) := by
  by_cases z : r = o
  · rw [tq_cT (show tq_o (tq_up og (M + 1) r) o (M + 1) = true from decide_eq_true (by rw [tq_us]; exact z)), tq_cup (Nat.le_refl _), if_pos z]
  · rw [tq_cF (show tq_o (tq_up og (M + 1) r) o (M + 1) = false from decide_eq_false (by rw [tq_us]; exact z)), tq_cup (Nat.le_refl _), if_neg z]
    rfl
theorem tq_nuup {r e : Nat} (he : e ≤ M) : tq_nu (tq_up og (M + 1) r) e = tq_nu og e := by
  unfold tq_nu
  rw [tq_un (by omega)]
  exact tq_cup he
theorem tq_nuup1 {r : Nat} : tq_nu (tq_up og (M + 1) r) (M + 1) = tq_c (tq_o og r) M + 1 := by
  unfold tq_nu
  rw [tq_us, tq_cup1, if_pos rfl]
theorem tq_ogb (I : tq_PI M N og bs st kc ln dl) {e : Nat} (h : e ≤ M) : og e < 3 := by
  by_cases z : e = 0
  · rw [z, I.1.2.1]
    omega
  · exact (I.2.1 e (by omega) h).1
/-- an origin knows all its own -/
theorem tq_own (I : tq_PI M N og bs st kc ln dl) {r e : Nat} (hr : r < 3) (he : e ≤ M) (ho : og e = r) : tq_kn og kc r e = true := by
  refine decide_eq_true ?_
  rw [ho, I.2.2.2.2.1 r hr]
  unfold tq_nu
  rw [ho]
  exact tq_cmono _ he
theorem tq_knup (I : tq_PI M N og bs st kc ln dl) {r q e : Nat} (hr : r < 3) (hq : q < 3) (he : e ≤ M) : tq_kn (tq_up og (M + 1) r) (tq_kc1 kc (r * 3 + r)) q e = tq_kn og kc q e := by
  have ho := tq_ogb I he
  by_cases z : q = r ∧ og e = r
  · rw [z.1, tq_own I hr he z.2]
    refine decide_eq_true ?_
    have := of_decide_eq_true (tq_own I hr he z.2)
    rw [tq_nuup he, tq_un (by omega), z.2]
    rw [z.2] at this
    unfold tq_kc1
    rw [if_pos rfl]
    omega
  · unfold tq_kn
    rw [tq_nuup he, tq_un (by omega)]
    unfold tq_kc1
    rw [if_neg (fun h => z (by omega))]
theorem tq_knup1 (I : tq_PI M N og bs st kc ln dl) {r q : Nat} (hr : r < 3) (hq : q < 3) : tq_kn (tq_up og (M + 1) r) (tq_kc1 kc (r * 3 + r)) q (M + 1) = decide (q = r) := by
  unfold tq_kn
  rw [tq_nuup1, tq_us]
  unfold tq_kc1
  have ow := I.2.2.2.2.1 r hr
  have bd := I.2.2.2.1 q r hq hr
  by_cases z : q = r
  · rw [decide_eq_true z, z, if_pos rfl]
    exact decide_eq_true (by omega)
  · rw [decide_eq_false z, if_neg (by omega)]
    exact decide_eq_false (by omega)
theorem tq_skup {r s e : Nat} (he : e ≤ M) : tq_sk (tq_up st (M + 1) s) (tq_up og (M + 1) r) e = tq_sk st og e := by
  unfold tq_sk
  rw [tq_un (by omega), tq_un (by omega)]
theorem tq_skup1 {r s : Nat} : tq_sk (tq_up st (M + 1) s) (tq_up og (M + 1) r) (M + 1) = 3 * s + r := by
  unfold tq_sk
  rw [tq_us, tq_us]
theorem tq_lnM (I : tq_PI M N og bs st kc ln dl) {i : Nat} (hi : i ≤ N) : ln i ≤ M := by
  by_cases z : i = 0
  · rw [z, I.1.2.2.2]
    omega
  · exact (I.2.2.2.2.2.2.1 i (by omega) hi).2.1
theorem tq_PI2 (I : tq_PI M N og bs st kc ln dl) {r b s N' : Nat} {z : Bool} {ln' : Nat → Nat} (hr : r < 3) (hM : M < 48) (hb : b ≤ M) (hkb : tq_kn og kc r b = true) (s1 : 1 ≤ s) (sM : s ≤ M + 1)
    (hs : z = false → ∀ d, 1 ≤ d → d ≤ M → dl d = false → tq_kn og kc r d = true → st d < s) (l0 : ln' 0 = 0)
    (l1 : ∀ i, 1 ≤ i → i ≤ N' → 1 ≤ ln' i ∧ ln' i ≤ M + 1 ∧ tq_up dl (M + 1) z (ln' i) = false) (l2 : tq_L N' (tq_up bs (M + 1) b) ln' (tq_sk (tq_up st (M + 1) s) (tq_up og (M + 1) r)))
    (l3 : ∀ P : Nat → Bool, tq_c (fun i => P (ln' i)) N' = tq_c (fun e => !tq_up dl (M + 1) z e && P e) (M + 1)) :
    tq_PI (M + 1) N' (tq_up og (M + 1) r) (tq_up bs (M + 1) b) (tq_up st (M + 1) s) (tq_kc1 kc (r * 3 + r)) ln' (tq_up dl (M + 1) z) := by
  refine ⟨⟨by omega, ?_, ?_, l0⟩, fun e e1 eM => ?_, fun e q e1 eM hq h => ?_, fun q o hq ho => ?_, fun o ho => ?_, fun e d e1 eM d1 dM de dd h => ?_, l1, l2, l3⟩
  · rw [tq_un (by omega)]
    exact I.1.2.1
  · rw [tq_un (by omega)]
    exact I.1.2.2.1
  · by_cases c : e = M + 1
    · rw [c, tq_us, tq_us, tq_us]
      exact ⟨hr, by omega, s1, by omega⟩
    · rw [tq_un c, tq_un c, tq_un c]
      exact I.2.1 e e1 (by omega)
  · by_cases c : e = M + 1
    · rw [c, tq_knup1 I hr hq] at h
      rw [c, tq_us, tq_knup I hr hq hb, of_decide_eq_true h]
      exact hkb
    · have bd := (I.2.1 e e1 (by omega)).2.1
      rw [tq_knup I hr hq (by omega)] at h
      rw [tq_un c, tq_knup I hr hq (by omega)]
      exact I.2.2.1 e q e1 (by omega) hq h
  · have bd := I.2.2.2.1 q o hq ho
    rw [tq_cup1]
    unfold tq_kc1
    by_cases c : q * 3 + o = r * 3 + r
    · rw [if_pos c, if_pos (by omega)]
      omega
    · rw [if_neg c]
      omega
  · have ow := I.2.2.2.2.1 o ho
    rw [tq_cup1]
    unfold tq_kc1
    by_cases c : o = r
    · rw [c, if_pos rfl, if_pos rfl]
      rw [c] at ow
      omega
    · rw [if_neg (by omega), if_neg (by omega)]
      exact ow
  · have key : ∀ d, 1 ≤ d → d ≤ M → z = false → tq_up dl (M + 1) z d = false → tq_sk (tq_up st (M + 1) s) (tq_up og (M + 1) r) d = 3 * s + r → False := by
      intro d d1 dM hz dd h
      rw [tq_un (by omega)] at dd
      rw [tq_skup dM] at h
      unfold tq_sk at h
      have ho := tq_ogb I dM
      have o : og d = r := by omega
      have := hs hz d d1 dM dd (tq_own I hr dM o)
      omega
    by_cases c : e = M + 1
    · by_cases c2 : d = M + 1
      · omega
      · rw [c, tq_skup1] at h
        rw [c, tq_us] at de
        exact (key d d1 (by omega) de dd h.symm).elim
    · by_cases c2 : d = M + 1
      · rw [c2, tq_skup1] at h
        rw [c2, tq_us] at dd
        exact (key e e1 (by omega) dd de h).elim
      · rw [tq_skup (by omega), tq_skup (by omega)] at h
        rw [tq_un c] at de
        rw [tq_un c2] at dd
        exact I.2.2.2.2.2.1 e d e1 (by omega) d1 (by omega) de dd h
/-- a delete more -/
theorem tq_PId (I : tq_PI M N og bs st kc ln dl) {r b : Nat} (hr : r < 3) (hM : M < 48) (hb : b ≤ M) (hkb : tq_kn og kc r b = true) :
    tq_PI (M + 1) N (tq_up og (M + 1) r) (tq_up bs (M + 1) b) (tq_up st (M + 1) 1) (tq_kc1 kc (r * 3 + r)) ln (tq_up dl (M + 1) true) := by
  refine tq_PI2 I hr hM hb hkb (by omega) (by omega) (fun h => Bool.noConfusion h) I.1.2.2.2 (fun i i1 iN => ?_) (fun i i1 iN => ?_) (fun P => ?_)
  · have := I.2.2.2.2.2.2.1 i i1 iN
    rw [tq_un (by omega)]
    exact ⟨this.1, by omega, this.2.2⟩
  · obtain ⟨j, j1, j2, j3, j4⟩ := I.2.2.2.2.2.2.2.1 i i1 iN
    have hi := tq_lnM I iN
    refine ⟨j, j1, ?_, ?_, fun m m1 m2 => ?_⟩
    · rw [tq_un (by omega)]
      exact j2
    · rw [tq_skup hi, tq_skup (tq_lnM I (by omega))]
      exact j3
    · rw [tq_skup hi, tq_skup (tq_lnM I (by omega))]
      exact j4 m m1 m2
  · rw [I.2.2.2.2.2.2.2.2 P, tq_cF (by simp [tq_us])]
    exact tq_ccong M (fun e _ h => by rw [tq_un (by omega)])
/-- an insert more, behind place p of the line -/
theorem tq_PIi (I : tq_PI M N og bs st kc ln dl) {r j p s : Nat} (hr : r < 3) (hM : M < 48) (hj : j ≤ p) (hp : p ≤ N) (hkb : tq_kn og kc r (ln j) = true) (s1 : 1 ≤ s) (sM : s ≤ M + 1)
    (hs : ∀ d, 1 ≤ d → d ≤ M → dl d = false → tq_kn og kc r d = true → st d < s)
    (hg : ∀ m, j < m → m ≤ p → 3 * s + r < tq_sk st og (ln m)) (he : p = N ∨ ¬ 3 * s + r < tq_sk st og (ln (p + 1))) :
    tq_PI (M + 1) (N + 1) (tq_up og (M + 1) r) (tq_up bs (M + 1) (ln j)) (tq_up st (M + 1) s) (tq_kc1 kc (r * 3 + r)) (tq_ins ln p (M + 1)) (tq_up dl (M + 1) false) := by
  have lb : tq_sk st og (ln j) < 3 * s + r := by
    by_cases z : j = 0
    · rw [z, I.1.2.2.2, tq_sk0 I]
      omega
    · have hl := I.2.2.2.2.2.2.1 j (by omega) (by omega)
      have := hs (ln j) hl.1 hl.2.1 hl.2.2 hkb
      have := (I.2.1 (ln j) hl.1 hl.2.1).1
      unfold tq_sk
      omega
  -- what stands next is smaller
  have hn : p < N → tq_sk st og (ln (p + 1)) < 3 * s + r := fun h => by
    have hl := I.2.2.2.2.2.2.1 (p + 1) (by omega) (by omega)
    have ho := (I.2.1 _ hl.1 hl.2.1).1
    have le : ¬ 3 * s + r < tq_sk st og (ln (p + 1)) := by
      rcases he with e | e
      · omega
      · exact e
    by_cases c : tq_sk st og (ln (p + 1)) = 3 * s + r
    · exfalso
      unfold tq_sk at c
      have o : og (ln (p + 1)) = r := by omega
      have := hs _ hl.1 hl.2.1 hl.2.2 (tq_own I hr hl.2.1 o)
      omega
    · omega
  refine tq_PI2 I hr hM (tq_lnM I (by omega)) hkb s1 sM (fun _ => hs) (by rw [tq_ins1 (by omega)]; exact I.1.2.2.2) (fun i i1 iN => ?_) (fun i i1 iN => ?_) (fun P => ?_)
  · have old : ∀ i, 1 ≤ i → i ≤ N → 1 ≤ ln i ∧ ln i ≤ M + 1 ∧ tq_up dl (M + 1) false (ln i) = false := fun i i1 iN => by
      have := I.2.2.2.2.2.2.1 i i1 iN
      rw [tq_un (by omega)]
      exact ⟨this.1, by omega, this.2.2⟩
    by_cases c : i ≤ p
    · rw [tq_ins1 c]
      exact old i i1 (by omega)
    · by_cases c2 : i = p + 1
      · rw [c2, tq_ins2, tq_us]
        exact ⟨by omega, by omega, rfl⟩
      · obtain ⟨q, rfl⟩ : ∃ q, i = q + 1 := ⟨i - 1, by omega⟩
        rw [tq_ins3 (by omega)]
        exact old q (by omega) (by omega)
  · by_cases c : i ≤ p
    · obtain ⟨j0, k1, k2, k3, k4⟩ := I.2.2.2.2.2.2.2.1 i i1 (by omega)
      have hi := tq_lnM I (show i ≤ N by omega)
      rw [tq_ins1 c]
      refine ⟨j0, k1, ?_, ?_, fun m m1 m2 => ?_⟩
      · rw [tq_un (by omega), tq_ins1 (by omega)]
        exact k2
      · rw [tq_ins1 (by omega), tq_skup hi, tq_skup (tq_lnM I (by omega))]
        exact k3
      · rw [tq_ins1 (by omega), tq_skup hi, tq_skup (tq_lnM I (by omega))]
        exact k4 m m1 m2
    · by_cases c2 : i = p + 1
      · rw [c2, tq_ins2]
        refine ⟨j, by omega, ?_, ?_, fun m m1 m2 => ?_⟩
        · rw [tq_us, tq_ins1 hj]
        · rw [tq_ins1 hj, tq_skup (tq_lnM I (by omega)), tq_skup1]
          exact lb
        · rw [tq_ins1 (by omega), tq_skup (tq_lnM I (by omega)), tq_skup1]
          exact hg m m1 (by omega)
      · obtain ⟨q, rfl⟩ : ∃ q, i = q + 1 := ⟨i - 1, by omega⟩
        have hq : q ≤ N := by omega
        have hi := tq_lnM I hq
        have hpN : p < N := by omega
        have sm := hn hpN
        obtain ⟨j0, k1, k2, k3, k4⟩ := I.2.2.2.2.2.2.2.1 q (by omega) hq
        rw [tq_ins3 (show p < q by omega)]
        by_cases w : j0 ≤ p
        · refine ⟨j0, by omega, ?_, ?_, fun m m1 m2 => ?_⟩
          · rw [tq_un (by omega), tq_ins1 w]
            exact k2
          · rw [tq_ins1 w, tq_skup hi, tq_skup (tq_lnM I (by omega))]
            exact k3
          · by_cases v : m ≤ p
            · rw [tq_ins1 v, tq_skup hi, tq_skup (tq_lnM I (by omega))]
              exact k4 m m1 (by omega)
            · by_cases v2 : m = p + 1
              · rw [v2, tq_ins2, tq_skup1, tq_skup hi]
                by_cases v3 : q = p + 1
                · rw [v3]
                  exact sm
                · have := k4 (p + 1) (by omega) (by omega)
                  omega
              · obtain ⟨m', rfl⟩ : ∃ m', m = m' + 1 := ⟨m - 1, by omega⟩
                rw [tq_ins3 (by omega), tq_skup hi, tq_skup (tq_lnM I (by omega))]
                exact k4 m' (by omega) (by omega)
        · refine ⟨j0 + 1, by omega, ?_, ?_, fun m m1 m2 => ?_⟩
          · rw [tq_un (by omega), tq_ins3 (by omega)]
            exact k2
          · rw [tq_ins3 (by omega), tq_skup hi, tq_skup (tq_lnM I (by omega))]
            exact k3
          · obtain ⟨m', rfl⟩ : ∃ m', m = m' + 1 := ⟨m - 1, by omega⟩
            rw [tq_ins3 (by omega), tq_skup hi, tq_skup (tq_lnM I (by omega))]
            exact k4 m' (by omega) (by omega)
  · rw [(tq_insc ln p (M + 1) P N).2 hp, I.2.2.2.2.2.2.2.2 P]
    have t : tq_c (fun e => !tq_up dl (M + 1) false e && P e) M = tq_c (fun e => !dl e && P e) M := tq_ccong M (fun e _ h => by rw [tq_un (by omega)])
    show _ = tq_c (fun e => !tq_up dl (M + 1) false e && P e) M + (if (!tq_up dl (M + 1) false (M + 1) && P (M + 1)) = true then 1 else 0)
    rw [t, tq_us, Bool.not_false, Bool.true_and]
end
end
section
/-! one change more: how both sides write it -/
section
variable {M N : Nat} {og bs st kc ln : Nat → Nat} {dl : Nat → Bool} {lt : Nat → Int32} {xo xn xd xb xl xs xL xk : Nat → Int32} {fs : Int32} {yo yi yl yt ys yk yx : Nat → Int32}
theorem tq_XA2 (I : tq_PI M N og bs st kc ln dl) (X : tq_XA M N og bs st kc ln dl lt xo xn xd xb xl xs xL xk) {r b s : Nat} {z : Bool} {l : Int32} {xl' xs' : Nat → Int32} (hr : r < 3)
    (h1 : ∀ c, c < M → xl' c = xl c ∧ xs' c = xs c) (h2 : z = false → xl' M = l ∧ xs' M = nI s) :
    tq_XA (M + 1) N (tq_up og (M + 1) r) (tq_up bs (M + 1) b) (tq_up st (M + 1) s) (tq_kc1 kc (r * 3 + r)) ln (tq_up dl (M + 1) z) (tq_up lt (M + 1) l)
      (upd xo M (nI r)) (upd xn M (nI (kc (r * 3 + r) + 1))) (upd xd M (tq_01 z)) (upd xb M (tq_b b)) xl' xs' xL (upd xk (r * 3 + r) (xk (r * 3 + r) + 1)) := by
  refine ⟨fun c hc => ?_, fun c hc hd => ?_, X.2.2.1, fun j hj => ?_⟩
  · by_cases w : c = M
    · rw [w, pk_us, pk_us, pk_us, pk_us, tq_us, tq_us, tq_us, tq_nuup1, I.2.2.2.2.1 r hr]
      exact ⟨rfl, rfl, rfl, rfl⟩
    · rw [pk_un w, pk_un w, pk_un w, pk_un w, tq_un (by omega), tq_un (by omega), tq_un (by omega), tq_nuup (by omega)]
      exact X.1 c (by omega)
  · by_cases w : c = M
    · rw [w, tq_us] at hd
      rw [w, tq_us, tq_us]
      exact h2 hd
    · rw [tq_un (by omega)] at hd
      rw [tq_un (by omega), tq_un (by omega), (h1 c (by omega)).1, (h1 c (by omega)).2]
      exact X.2.1 c (by omega) hd
  · unfold tq_kc1
    by_cases w : j = r * 3 + r
    · rw [w, pk_us, if_pos rfl, X.2.2.2 _ (by omega), nI_1]
    · rw [pk_un w, if_neg w]
      exact X.2.2.2 j hj
theorem tq_xmake (I : tq_PI M N og bs st kc ln dl) (X : tq_XA M N og bs st kc ln dl lt xo xn xd xb xl xs xL xk) {r : Nat} {x : Int32} (hr : r < 3) (hM : M < 48) {post : Int32 → SX → Prop}
    (hp : post (nI M) (nI (M + 1), nI N, upd xo M (nI r), upd xn M (nI (kc (r * 3 + r) + 1)), xd, upd xb M x, xl, xs, xL, upd xk (r * 3 + r) (xk (r * 3 + r) + 1))) :
    wpX_makeChange post (nI M, nI N, xo, xn, xd, xb, xl, xs, xL, xk) (nI r) x := by
  have e1 : nI r * 3 + nI r = nI (r * 3 + r) := tq_r3
  have i1 : vp_in (nI r * 3 + nI r) 9 := by rw [e1]; exact vp_in_nI (by omega) (by omega)
  have c1 : (nI r * 3 + nI r).toNatClampNeg = r * 3 + r := by rw [e1]; exact nI_clamp (by omega)
  have iM : vp_in (nI M) 48 := vp_in_nI hM (by omega)
  have cM : (nI M).toNatClampNeg = M := nI_clamp (by omega)
  refine fun m em => ⟨i1, i1, fun k ek => ⟨iM, fun o eo => ⟨i1, iM, fun n en => ⟨iM, fun b eb => ?_⟩⟩⟩⟩
  rw [c1] at ek en
  rw [cM] at eo en eb
  rw [ek, pk_us, X.2.2.2 _ (by omega), nI_1] at en
  rw [nI_1] at em
  subst em ek eo en eb
  exact hp
theorem tq_xgr (h48 : M ≤ 48) (X : tq_XA M N og bs st kc ln dl lt xo xn xd xb xl xs xL xk) (hb : ∀ d, 1 ≤ d → d ≤ M → og d < 3 ∧ st d ≤ 48) {e d : Nat} {x y : Int32} (e1 : 1 ≤ e) (eM : e ≤ M) (ed : dl e = false) (hx : x = nI (e - 1))
    (d1 : 1 ≤ d) (dM : d ≤ M) (dd : dl d = false) (hy : y = nI (d - 1)) {post : Int32 → Prop} (hp : post (tq_01 (decide (tq_sk st og d < tq_sk st og e)))) :
    wpX_hasGreaterStamp post (nI M, nI N, xo, xn, xd, xb, xl, xs, xL, xk) x y := by
  have at1 : ∀ e : Nat, 1 ≤ e → e ≤ M → dl e = false → ∀ x : Int32, x = nI (e - 1) → vp_in x 48 ∧ xo x.toNatClampNeg = nI (og e) ∧ xs x.toNatClampNeg = nI (st e) := by
    intro e e1 eM ed x hx
    have a := (X.1 (e - 1) (by omega)).1
    have b := (X.2.1 (e - 1) (by omega) (by rw [Nat.sub_add_cancel e1]; exact ed)).2
    rw [Nat.sub_add_cancel e1] at a b
    rw [hx]
    refine ⟨vp_in_nI (by omega) (by omega), ?_⟩
    rw [nI_clamp (by omega)]
    exact ⟨a, b⟩
  have ax := at1 e e1 eM ed x hx
  have ay := at1 d d1 dM dd y hy
  have be := hb e e1 eM
  have bd := hb d d1 dM
  unfold tq_sk at hp
  refine ⟨ax.1, ay.1, pk_eq (st e) (st d) (fun c => ⟨ax.1, ay.1, pk_le (og e) (og d) (fun c2 => ?_) (fun c2 => ?_) ax.2.1 ay.2.1 (by omega) (by omega)⟩) (fun c => ⟨ax.1, ay.1, pk_le (st e) (st d) (fun c2 => ?_) (fun c2 => ?_) ax.2.2 ay.2.2 (by omega) (by omega)⟩) ax.2.2 ay.2.2 (by omega) (by omega)⟩
  · rw [decide_eq_false (by omega)] at hp
    exact hp
  · rw [decide_eq_true (by omega)] at hp
    exact hp
  · rw [decide_eq_false (by omega)] at hp
    exact hp
  · rw [decide_eq_true (by omega)] at hp
    exact hp
theorem tq_xpb0 (h48 : M ≤ 48) (hN : N < 48) (X : tq_XA M N og bs st kc ln dl lt xo xn xd xb xl xs xL xk) (hl : ∀ i, 1 ≤ i → i ≤ N → 1 ≤ ln i ∧ ln i ≤ M ∧ dl (ln i) = false)
    {b j : Nat} {x : Int32} (hx : x = tq_b b) (hbM : b ≤ M) (hj : j ≤ N) (ej : ln j = b) (uj : ∀ i, 1 ≤ i → i ≤ N → ln i = b → i = j) {post : Int32 → Prop} (hp : post (nI j)) :
    ∀ k i, i + k = N → (j = 0 ∨ i < j) → wX_placeBehind_2 post x (nI M) (nI N) xo xn xd xb xl xs xL xk (k + 1) (nI i) := by
  intro k
  induction k with
  | zero =>
    intro i hi h
    have j0 : j = 0 := by omega
    rw [j0] at hp
    exact br_t (nI_le (by omega) (by omega)) hp
  | succ k ih =>
    intro i hi h
    have hL := hl (i + 1) (by omega) (by omega)
    refine br_f (nI_ge (by omega) (by omega)) ⟨vp_in_nI (by omega) (by omega), tq_be (d := ln (i + 1)) (e := b) (by omega) (by omega) ?_ hx (fun c => ?_) (fun c => ?_)⟩
    · rw [nI_clamp (by omega), X.2.2.1 i (by omega), tq_bp hL.1]
    · rw [nI_1, uj (i + 1) (by omega) (by omega) c]
      exact hp
    · intro y ey
      rw [ey, nI_1]
      refine ih (i + 1) (by omega) ?_
      rcases h with h | h
      · exact Or.inl h
      · right
        by_cases w : i + 1 = j
        · exact absurd (by rw [w]; exact ej) c
        · omega
theorem tq_xpl0 (h48 : M ≤ 48) (hN : N < 48) (X : tq_XA M N og bs st kc ln dl lt xo xn xd xb xl xs xL xk) (hl : ∀ i, 1 ≤ i → i ≤ N → 1 ≤ ln i ∧ ln i ≤ M ∧ dl (ln i) = false) (hb : ∀ d, 1 ≤ d → d ≤ M → og d < 3 ∧ st d ≤ 48)
    {e j : Nat} {x : Int32} (e1 : 1 ≤ e) (eM : e ≤ M) (ed : dl e = false) (hx : x = nI (e - 1)) {post : Int32 → Prop}
    (hp : ∀ p, j ≤ p → p ≤ N → (∀ m, j < m → m ≤ p → tq_sk st og e < tq_sk st og (ln m)) → (p = N ∨ ¬ tq_sk st og e < tq_sk st og (ln (p + 1))) → post (nI p)) :
    ∀ k p, p + k = N → j ≤ p → (∀ m, j < m → m ≤ p → tq_sk st og e < tq_sk st og (ln m)) → wX_placeInLine_11 post x (nI M) (nI N) xo xn xd xb xl xs xL xk (k + 1) (nI p) := by
  intro k
  induction k with
  | zero =>
    intro p hpN hj hm
    exact br_t (nI_le (by omega) (by omega)) (hp p hj (by omega) hm (Or.inl (by omega)))
  | succ k ih =>
    intro p hpN hj hm
    have hL := hl (p + 1) (by omega) (by omega)
    refine br_f (nI_ge (by omega) (by omega)) ⟨vp_in_nI (by omega) (by omega), tq_xgr h48 X hb hL.1 hL.2.1 hL.2.2 (by rw [nI_clamp (by omega)]; exact X.2.2.1 p (by omega)) e1 eM ed hx (tq_br (fun c => ?_) (fun c => ?_))⟩
    · exact hp p hj (by omega) hm (Or.inr (of_decide_eq_false c))
    · intro y ey
      rw [ey, nI_1]
      refine ih (p + 1) (by omega) (by omega) (fun m m1 m2 => ?_)
      by_cases w : m = p + 1
      · rw [w]
        exact of_decide_eq_true c
      · exact hm m m1 (by omega)
theorem tq_xpt0 (hN : N < 48) {p : Nat} (hpN : p ≤ N) {x : Int32} {post : SX → Prop} {xM : Int32} {x0 : Nat → Int32}
    (hp : ∀ xL' : Nat → Int32, (∀ i, i < p → xL' i = x0 i) → xL' p = x → (∀ i, p < i → i ≤ N → xL' i = x0 (i - 1)) → post (xM, nI (N + 1), xo, xn, xd, xb, xl, xs, xL', xk)) :
    ∀ k w (xL : Nat → Int32), w = p + k → w ≤ N → (∀ i, i ≤ w → i < N → xL i = x0 i) → (∀ i, w < i → i ≤ N → xL i = x0 (i - 1)) → wX_putInLine_11 post x (nI p) xM (nI N) (k + 1) (nI w) xo xn xd xb xl xs xL xk := by
  intro k
  induction k with
  | zero =>
    intro w xL hw hwN h1 h2
    refine br_t (nI_le (by omega) (by omega)) ⟨vp_in_nI (by omega) (by omega), fun xL' e n en => ?_⟩
    rw [nI_clamp (by omega)] at e
    rw [nI_1] at en
    rw [en]
    refine hp xL' (fun i hi => ?_) ?_ (fun i i1 i2 => ?_)
    · rw [e, pk_un (by omega)]
      exact h1 i (by omega) (by omega)
    · rw [e, pk_us]
    · rw [e, pk_un (by omega)]
      exact h2 i (by omega) i2
  | succ k ih =>
    intro w xL hw hwN h1 h2
    obtain ⟨q, rfl⟩ : ∃ q, w = q + 1 := ⟨w - 1, by omega⟩
    have e1 : nI (q + 1) - 1 = nI q := nI_pred q
    refine br_f (nI_ge (by omega) (by omega)) ⟨?_, vp_in_nI (by omega) (by omega), fun xL' e y ey => ?_⟩
    · rw [e1]
      exact vp_in_nI (by omega) (by omega)
    · rw [e1, nI_clamp (by omega), nI_clamp (by omega)] at e
      rw [pk_m1] at ey
      rw [ey]
      refine ih q xL' (by omega) (by omega) (fun i i1 i2 => ?_) (fun i i1 i2 => ?_)
      · rw [e, pk_un (by omega)]
        exact h1 i (by omega) i2
      · by_cases z : i = q + 1
        · rw [e, z, pk_us, Nat.add_sub_cancel]
          exact h1 q (by omega) (by omega)
        · rw [e, pk_un z]
          exact h2 i (by omega) i2
/-- the component's whole way of putting e into the line -/
theorem tq_xput (h48 : M ≤ 48) (hN : N < 48) (X : tq_XA M N og bs st kc ln dl lt xo xn xd xb xl xs xL xk) (hl : ∀ i, 1 ≤ i → i ≤ N → 1 ≤ ln i ∧ ln i ≤ M ∧ dl (ln i) = false) (hb : ∀ d, 1 ≤ d → d ≤ M → og d < 3 ∧ st d ≤ 48)
    {e j : Nat} {x : Int32} (e1 : 1 ≤ e) (eM : e ≤ M) (ed : dl e = false) (hx : x = nI (e - 1)) (hbM : bs e ≤ M) (hj : j ≤ N) (ej : ln j = bs e) (uj : ∀ i, 1 ≤ i → i ≤ N → ln i = bs e → i = j) {post : SX → Prop}
    (hp : ∀ p xL', j ≤ p → p ≤ N → (∀ m, j < m → m ≤ p → tq_sk st og e < tq_sk st og (ln m)) → (p = N ∨ ¬ tq_sk st og e < tq_sk st og (ln (p + 1))) →
      tq_XA M (N + 1) og bs st kc (tq_ins ln p e) dl lt xo xn xd xb xl xs xL' xk → post (nI M, nI (N + 1), xo, xn, xd, xb, xl, xs, xL', xk)) :
    wpX_putInLine post (nI M, nI N, xo, xn, xd, xb, xl, xs, xL, xk) x := by
  unfold wpX_putInLine wpX_placeInLine
  have hxin : vp_in x 48 := by rw [hx]; exact vp_in_nI (by omega) (by omega)
  have hxb : xb x.toNatClampNeg = tq_b (bs e) := by
    rw [hx, nI_clamp (by omega)]
    have := (X.1 (e - 1) (by omega)).2.2.2
    rw [Nat.sub_add_cancel e1] at this
    exact this
  refine ⟨hxin, N + 1, tq_xpb0 h48 hN X hl hxb hbM hj ej uj ?_ N 0 (by omega) (by omega)⟩
  refine ⟨N - j + 1, tq_xpl0 h48 hN X hl hb e1 eM ed hx (fun p p1 p2 p3 p4 => ?_) (N - j) j (by omega) (Nat.le_refl _) (fun m a b => by omega)⟩
  refine ⟨N - p + 1, tq_xpt0 hN p2 (x0 := xL) (fun xL' a b c => ?_) (N - p) N xL (by omega) (Nat.le_refl _) (fun i _ _ => rfl) (fun i a b => by omega)⟩
  refine hp p xL' p1 p2 p3 p4 ⟨X.1, X.2.1, fun i hi => ?_, X.2.2.2⟩
  by_cases w : i < p
  · rw [a i w, tq_ins1 (by omega)]
    exact X.2.2.1 i (by omega)
  · by_cases w2 : i = p
    · rw [w2, b, tq_ins2]
      exact hx
    · rw [c i (by omega) (by omega), tq_ins3 (by omega), X.2.2.1 (i - 1) (by omega), Nat.sub_add_cancel (by omega)]
theorem tq_YAu (Y : tq_YA M og bs st kc dl lt yo yi yl yt ys yk) (a b c d : Int32) : tq_YA M og bs st kc dl lt (upd yo M a) (upd yi M b) (upd yl M c) (upd yt M d) ys yk := by
  refine ⟨fun i hi => ?_, fun i hi hd => ?_, Y.2.2⟩
  · rw [pk_un (by omega), pk_un (by omega), pk_un (by omega)]
    exact Y.1 i hi
  · rw [pk_un (by omega)]
    exact Y.2.1 i hi hd
theorem tq_YA2 (I : tq_PI M N og bs st kc ln dl) (Y : tq_YA M og bs st kc dl lt yo yi yl yt ys yk) {r b s s' : Nat} {z : Bool} {l : Int32} (hr : r < 3) (hM : M < 48) (hs : z = false → s' = s) :
    tq_YA (M + 1) (tq_up og (M + 1) r) (tq_up bs (M + 1) b) (tq_up st (M + 1) s) (tq_kc1 kc (r * 3 + r)) (tq_up dl (M + 1) z) (tq_up lt (M + 1) l)
      (upd yo M (nI r)) (upd yi M (tq_01 (!z))) (upd yl M l) (upd yt M (tq_b b)) (upd ys M (nI s')) (upd yk (48 * r + M) (tq_01 true)) := by
  refine ⟨fun c hc => ?_, fun c hc hd => ?_, fun q c hq hc => ?_⟩
  · by_cases w : c = M
    · rw [w, pk_us, pk_us, pk_us, tq_us, tq_us, tq_us]
      exact ⟨rfl, rfl, rfl⟩
    · rw [pk_un w, pk_un w, pk_un w, tq_un (by omega), tq_un (by omega), tq_un (by omega)]
      exact Y.1 c (by omega)
  · by_cases w : c = M
    · rw [w, tq_us] at hd
      rw [w, tq_us, tq_us, pk_us, pk_us, hs hd]
      exact ⟨rfl, rfl⟩
    · rw [tq_un (by omega)] at hd
      rw [tq_un (by omega), tq_un (by omega), pk_un w, pk_un w]
      exact Y.2.1 c (by omega) hd
  · by_cases w : c = M
    · rw [w, tq_knup1 I hr hq, decide_eq_true (show M < M + 1 by omega), Bool.true_and]
      by_cases v : q = r
      · rw [v, pk_us, decide_eq_true rfl]
      · rw [pk_un (by omega), Y.2.2 q M hq hM, decide_eq_false (show ¬ M < M by omega), decide_eq_false v]
        rfl
    · rw [pk_un (by omega), Y.2.2 q c hq hc]
      by_cases v : c < M
      · rw [decide_eq_true v, decide_eq_true (show c < M + 1 by omega), tq_knup I hr hq (by omega)]
      · rw [decide_eq_false v, decide_eq_false (show ¬ c < M + 1 by omega)]
        rfl
/-- the reference's make: whatever the line of the new picture -/
theorem tq_ymake (I : tq_PI M N og bs st kc ln dl) (Y : tq_YA M og bs st kc dl lt yo yi yl yt ys yk) {r b s N' : Nat} {ln' : Nat → Nat} {z : Bool} {p1 l x : Int32} (hr : r < 3) (hM : M < 48) (hp1 : vp_nar .boolean p1 = tq_01 (!z)) (hx : x = tq_b b)
    (hs : z = false → ∀ m, tq_Mx M st dl (tq_kn og kc r) m → m + 1 = s)
    (I' : tq_PI (M + 1) N' (tq_up og (M + 1) r) (tq_up bs (M + 1) b) (tq_up st (M + 1) s) (tq_kc1 kc (r * 3 + r)) ln' (tq_up dl (M + 1) z)) {post : Int32 → SY → Prop}
    (hp : ∀ fs' yo' yi' yl' yt' ys' yk' yx', tq_YA (M + 1) (tq_up og (M + 1) r) (tq_up bs (M + 1) b) (tq_up st (M + 1) s) (tq_kc1 kc (r * 3 + r)) (tq_up dl (M + 1) z) (tq_up lt (M + 1) l) yo' yi' yl' yt' ys' yk' →
      post (nI (tq_c (tq_S (M + 1) (tq_up og (M + 1) r) (tq_up bs (M + 1) b) (tq_kc1 kc (r * 3 + r)) ln' (tq_up dl (M + 1) z) r) N')) (nI (M + 1), fs', yo', yi', yl', yt', ys', yk', yx')) :
    wpY_make post (nI M, fs, yo, yi, yl, yt, ys, yk, yx) (nI r) p1 x l := by
  have iM : vp_in (nI M) 48 := vp_in_nI hM (by omega)
  have cM : (nI M).toNatClampNeg = M := nI_clamp (by omega)
  have e48 : 48 * nI r + nI M = nI (48 * r + M) := tq_r48
  subst hx
  refine ⟨iM, fun o eo => ⟨iM, fun i ei => ⟨iM, fun t et => ⟨iM, fun q eq => ?_⟩⟩⟩⟩
  rw [cM] at eo ei et eq
  rw [hp1] at ei
  subst eo ei et eq
  refine ⟨M + 1, tq_ymx0 I (tq_YAu Y _ _ _ _) hr (fun m hm => ⟨iM, fun a ea => ⟨?_, fun w ew n en => ?_⟩⟩) M 0 0 (by omega) (fun e a b => by omega) (Or.inl rfl)⟩
  · rw [e48]
    exact vp_in_nI (by omega) (by omega)
  · rw [cM, nI_1] at ea
    rw [e48, nI_clamp (by omega), tq_bo1] at ew
    rw [nI_1] at en
    subst ea ew en
    have Y' := tq_YA2 I Y (r := r) (b := b) (s := s) (s' := m + 1) (z := z) (l := l) hr hM (fun h => hs h m hm)
    exact tq_ylen I' Y' hr (fun fs' yx' => hp fs' _ _ _ _ _ _ yx' Y')
end
end
section
/-! insert and delete -/
section
variable {M N : Nat} {og bs st kc ln : Nat → Nat} {dl : Nat → Bool} {lt : Nat → Int32} {xo xn xd xb xl xs xL xk : Nat → Int32} {fs : Int32} {yo yi yl yt ys yk yx : Nat → Int32}
theorem tq_Sk {r i : Nat} (h : tq_S M og bs kc ln dl r i = true) : tq_kn og kc r (ln i) = true := by
  have h' : (tq_kn og kc r (ln i) && !tq_tk M og bs kc dl r (ln i)) = true := h
  cases q : tq_kn og kc r (ln i)
  · rw [q] at h'
    exact Bool.noConfusion h'
  · rfl
theorem tq_ins49 (k : Nat) (P : tq_PI M N og bs st kc ln dl) (X : tq_XA M N og bs st kc ln dl lt xo xn xd xb xl xs xL xk) (Y : tq_YA M og bs st kc dl lt yo yi yl yt ys yk) {r j : Nat} (hr : r < 3) (hM : M < 48) (hj : j ≤ N)
    (hkb : tq_kn og kc r (ln j) = true) (l : Int32) {x : Int32} (hx : x = tq_b (ln j)) {post : Int32 → SX → Prop}
    (hp : ∀ w u', (∀ (fs : Int32) (yx : Nat → Int32) (q : Int32 → SY → Prop), (∀ v', i_Rel k u' v' → q w v') → wY_insert_53 q (nI r) l (tq_b (ln j)) (nI M) fs yo yi yl yt ys yk yx) → post w u') :
    wX_insert_49 post (nI r) l x (nI M) (nI N) xo xn xd xb xl xs xL xk := by
  have iM : vp_in (nI M) 48 := vp_in_nI hM (by omega)
  have cM : (nI M).toNatClampNeg = M := nI_clamp (by omega)
  have hN := tq_pN P
  unfold wX_insert_49
  subst hx
  refine tq_xst P X hr (fun m hm => tq_xmake P X hr hM ⟨iM, fun d ed => ⟨iM, fun L eL => ⟨iM, fun s es => ?_⟩⟩⟩)
  rw [cM, tq_bo0] at ed
  rw [cM] at eL es
  subst ed eL es
  have hmM : m ≤ M := by
    rcases hm.2 with z | ⟨e, e1, e2, e3, e4, e5⟩
    · omega
    · have := (P.2.1 e e1 e2).2.2.2
      omega
  have hs : ∀ d, 1 ≤ d → d ≤ M → dl d = false → tq_kn og kc r d = true → st d < m + 1 := fun d a b c e => by
    have := hm.1 d a b c e
    omega
  have X2 := tq_XA2 P X (r := r) (b := ln j) (s := m + 1) (z := false) (l := l) (xl' := upd xl M l) (xs' := upd xs M (nI (m + 1))) hr (fun c hc => ⟨pk_un (by omega), pk_un (by omega)⟩) (fun _ => ⟨pk_us, pk_us⟩)
  refine tq_xput (by omega) (by omega) X2 (fun i i1 iN => ?_) (fun d d1 dM => ?_) (e := M + 1) (j := j) (by omega) (Nat.le_refl _) tq_us rfl ?_ hj tq_us.symm (fun i i1 iN h => ?_) (fun p xL' p1 p2 p3 p4 X3 => ?_)
  · have := P.2.2.2.2.2.2.1 i i1 iN
    rw [tq_un (by omega)]
    exact ⟨this.1, by omega, this.2.2⟩
  · by_cases c : d = M + 1
    · rw [c, tq_us, tq_us]
      omega
    · have := P.2.1 d d1 (by omega)
      rw [tq_un c, tq_un c]
      omega
  · have := tq_lnM P hj
    rw [tq_us]
    omega
  · rw [tq_us] at h
    exact tq_lninj P iN hj h
  · have I3 := tq_PIi P (r := r) (j := j) (p := p) (s := m + 1) hr hM p1 p2 hkb (by omega) (by omega) hs (fun m' a b => by
      have := p3 m' a b
      rw [tq_skup1, tq_skup (tq_lnM P (by omega))] at this
      exact this) (by
      by_cases z : p = N
      · exact Or.inl z
      · right
        rcases p4 with w | w
        · exact absurd w z
        · rw [tq_skup1, tq_skup (tq_lnM P (by omega))] at w
          exact w)
    refine tq_xlen I3 X3 hr (hp _ _ (fun fs yx q hq => ?_))
    unfold wY_insert_53
    exact tq_ymake P Y (z := false) (b := ln j) (s := m + 1) hr hM tq_bo1 rfl (fun _ m' hm' => by rw [tq_Mxu hm' hm]) I3 (fun fs' yo' yi' yl' yt' ys' yk' yx' Y' => hq _ (tq_mk _ I3 X3 Y' _ _))
end
theorem i_vc_insert {k : Nat} {u : SX} {v : SY} (I : i_Rel k u v) (hk : k + 4 ≤ 2048) (v1 : Int32) (v2 : Int32) (v3 : Int32) : wpX_insert (fun r u' => wpY_insert (fun r' v' => r' = r ∧ i_Rel (k + 4) u' v') v v1 v2 v3) u v1 v2 v3 := by
  obtain ⟨M, N, og, bs, st, kc, ln, dl, lt, xo, xn, xd, xb, xl, xs, xL, xk, fs, yo, yi, yl, yt, ys, yk, yx, P, X, Y, rfl, rfl⟩ := I
  have h48 := P.1.1
  have hN := tq_pN P
  unfold wpX_insert
  rcases tq_rep v1 with ⟨r, hr, rfl⟩ | ⟨hX, hY⟩
  · have hC := tq_cle (tq_S M og bs kc ln dl r) N
    refine tq_repX hr (br_f tq_10 ?_)
    by_cases hM : M < 48
    · have nM : ¬ nI M = 48 := fun z => by
        have := (nI_eq (a := M) (b := 48) (by omega) (by omega)).mp z
        omega
      refine br_t (nI_lt (b := 48) hM (by omega)) ?_
      rcases pk_ix v2 (n := tq_c (tq_S M og bs kc ln dl r) N + 1) (by omega) with h | h | ⟨q, hq, rfl⟩
      · refine br_t h ?_
        unfold wpY_insert
        exact tq_repY hr (br_t rfl (tq_ylay P Y hr (fun yx' _ => br_t h ⟨rfl, tq_mk _ P X Y _ _⟩)))
      · have h0 : ¬ v2 < 0 := fun z => absurd (Int32.lt_of_le_of_lt h z) (nI_pos (by omega))
        have hn : ¬ v2 ≤ nI (tq_c (tq_S M og bs kc ln dl r) N) := fun z => absurd (Int32.le_trans h z) (nI_ge (by omega) (by omega))
        refine br_f h0 (tq_xlen P X hr (br_f hn ?_))
        unfold wpY_insert
        exact tq_repY hr (br_t rfl (tq_ylay P Y hr (fun yx' _ => br_f h0 (br_t (Int32.not_le.mp hn) ⟨rfl, tq_mk _ P X Y _ _⟩))))
      · refine br_f (nI_pos (by omega)) (tq_xlen P X hr (br_t (nI_le (by omega) (by omega)) ?_))
        by_cases q0 : q = 0
        · subst q0
          have l0 : tq_b (ln 0) = -1 := by rw [P.1.2.2.2]; rfl
          refine br_t rfl (tq_ins49 (k + 4) P X Y (j := 0) hr hM (Nat.zero_le _) (by rw [P.1.2.2.2]; exact tq_kn0 P r) v3 l0.symm (fun w u' H => ?_))
          unfold wpY_insert
          refine tq_repY hr (br_t rfl (tq_ylay P Y hr (fun yx' _ => br_f (nI_pos (by omega)) (br_f (nI_nlt (by omega) (by omega)) (br_f nM (br_t rfl ?_))))))
          have H' := H (nI (tq_c (tq_S M og bs kc ln dl r) N)) yx' (fun r' v' => r' = w ∧ i_Rel (k + 4) u' v') (fun v' hv => ⟨rfl, hv⟩)
          rw [l0] at H'
          exact H'
        · obtain ⟨i, i1, i2, i3, i4⟩ := tq_cex (P := tq_S M og bs kc ln dl r) (n := N) (q := q - 1) (by omega)
          have hl := P.2.2.2.2.2.2.1 i i1 i2
          have eq1 : nI q - 1 = nI (q - 1) := by
            obtain ⟨q', rfl⟩ : ∃ q', q = q' + 1 := ⟨q - 1, by omega⟩
            exact nI_pred q'
          refine br_f (nI_ne0 (by omega) (by omega)) (tq_xsi P X hr i1 i2 i3 (eq1.trans (by rw [i4])) (tq_ins49 (k + 4) P X Y (j := i) hr hM i2 (tq_Sk i3) v3 (tq_bp hl.1).symm (fun w u' H => ?_)))
          unfold wpY_insert
          refine tq_repY hr (br_t rfl (tq_ylay P Y hr (fun yx' tx => br_f (nI_pos (by omega)) (br_f (nI_nlt (by omega) (by omega)) (br_f nM (br_f (nI_ne0 (by omega) (by omega)) ⟨?_, ?_⟩))))))
          · rw [eq1]
            exact vp_in_nI (by omega) (by omega)
          · have et : yx' (nI q - 1).toNatClampNeg = tq_b (ln i) := by
              rw [eq1, nI_clamp (by omega), ← i4, tq_bp hl.1]
              exact tx i i1 i2 i3
            rw [et]
            exact H _ yx' _ (fun v' hv => ⟨rfl, hv⟩)
    · have eM : nI M = 48 := by rw [show M = 48 by omega]; rfl
      refine br_f (nI_nlt (b := 48) (by omega) (by omega)) ?_
      unfold wpY_insert
      exact tq_repY hr (br_t rfl (tq_ylay P Y hr (fun yx' _ => br_c (fun _ => ⟨rfl, tq_mk _ P X Y _ _⟩) (fun _ => br_c (fun _ => ⟨rfl, tq_mk _ P X Y _ _⟩) (fun _ => br_t eM ⟨rfl, tq_mk _ P X Y _ _⟩)))))
  · refine hX _ (br_t rfl ?_)
    unfold wpY_insert
    exact hY _ (br_f tq_10 ⟨rfl, tq_mk _ P X Y _ _⟩)
theorem i_vc_delete {k : Nat} {u : SX} {v : SY} (I : i_Rel k u v) (hk : k + 4 ≤ 2048) (v1 : Int32) (v2 : Int32) : wpX_delete (fun r u' => wpY_delete (fun r' v' => r' = r ∧ i_Rel (k + 4) u' v') v v1 v2) u v1 v2 := by
  obtain ⟨M, N, og, bs, st, kc, ln, dl, lt, xo, xn, xd, xb, xl, xs, xL, xk, fs, yo, yi, yl, yt, ys, yk, yx, P, X, Y, rfl, rfl⟩ := I
  have h48 := P.1.1
  have hN := tq_pN P
  unfold wpX_delete
  rcases tq_rep v1 with ⟨r, hr, rfl⟩ | ⟨hX, hY⟩
  · have hC := tq_cle (tq_S M og bs kc ln dl r) N
    refine tq_repX hr (br_f tq_10 ?_)
    by_cases hM : M < 48
    · have nM : ¬ nI M = 48 := fun z => by
        have := (nI_eq (a := M) (b := 48) (by omega) (by omega)).mp z
        omega
      have iM : vp_in (nI M) 48 := vp_in_nI hM (by omega)
      have cM : (nI M).toNatClampNeg = M := nI_clamp (by omega)
      refine br_t (nI_lt (b := 48) hM (by omega)) ?_
      rcases pk_ix v2 (n := tq_c (tq_S M og bs kc ln dl r) N) (by omega) with h | h | ⟨q, hq, rfl⟩
      · refine tq_xsn P X hr (fun j hj e => tq_neg h j (by omega) e.symm) (br_t rfl ?_)
        unfold wpY_delete
        exact tq_repY hr (br_t rfl (tq_ylay P Y hr (fun yx' _ => br_t h ⟨rfl, tq_mk _ P X Y _ _⟩)))
      · have h0 : ¬ v2 < 0 := fun z => absurd (Int32.lt_of_le_of_lt h z) (nI_pos (by omega))
        refine tq_xsn P X hr (fun j hj e => nI_ge hj (by omega) (by rw [e]; exact h)) (br_t rfl ?_)
        unfold wpY_delete
        exact tq_repY hr (br_t rfl (tq_ylay P Y hr (fun yx' _ => br_f h0 (br_t h ⟨rfl, tq_mk _ P X Y _ _⟩))))
      · obtain ⟨i, i1, i2, i3, i4⟩ := tq_cex hq
        have hl := P.2.2.2.2.2.2.1 i i1 i2
        refine tq_xsi P X hr i1 i2 i3 (by rw [i4]) (br_f (fun e => tq_neg tq_m1 (ln i - 1) (by omega) e.symm) (tq_xmake P X hr hM ⟨iM, fun d ed => ?_⟩))
        rw [cM, tq_bo1] at ed
        subst ed
        have X2 := tq_XA2 P X (r := r) (b := ln i) (s := 1) (z := true) (l := 0) (xl' := xl) (xs' := xs) hr (fun _ _ => ⟨rfl, rfl⟩) (fun h => Bool.noConfusion h)
        rw [tq_bp hl.1] at X2
        have I2 := tq_PId P (r := r) (b := ln i) hr hM hl.2.1 (tq_Sk i3)
        refine tq_xlen I2 X2 hr ?_
        unfold wpY_delete
        refine tq_repY hr (br_t rfl (tq_ylay P Y hr (fun yx' tx => br_f (nI_pos (by omega)) (br_f (nI_ge hq (by omega)) (br_f nM ⟨vp_in_nI (by omega) (by omega), ?_⟩)))))
        have et : yx' (nI q).toNatClampNeg = tq_b (ln i) := by
          rw [nI_clamp (by omega), ← i4, tq_bp hl.1]
          exact tx i i1 i2 i3
        rw [et]
        exact tq_ymake P Y (z := true) (b := ln i) (s := 1) (l := 0) hr hM tq_bo0 rfl (fun h => Bool.noConfusion h) I2 (fun fs' yo' yi' yl' yt' ys' yk' yx' Y' => ⟨rfl, tq_mk _ I2 X2 Y' _ _⟩)
    · have eM : nI M = 48 := by rw [show M = 48 by omega]; rfl
      refine br_f (nI_nlt (b := 48) (by omega) (by omega)) ?_
      unfold wpY_delete
      exact tq_repY hr (br_t rfl (tq_ylay P Y hr (fun yx' _ => br_c (fun _ => ⟨rfl, tq_mk _ P X Y _ _⟩) (fun _ => br_c (fun _ => ⟨rfl, tq_mk _ P X Y _ _⟩) (fun _ => br_t eM ⟨rfl, tq_mk _ P X Y _ _⟩)))))
  · refine hX _ (br_t rfl ?_)
    unfold wpY_delete
    exact hY _ (br_f tq_10 ⟨rfl, tq_mk _ P X Y _ _⟩)
end
