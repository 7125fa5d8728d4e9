/-! entities: 0 is the root, e the change e - 1. The pictures of what both sides hold -/
def tq_o (og : Nat → Nat) (o : Nat) : Nat → Bool := fun d => decide (og d = o)
def tq_nu (og : Nat → Nat) (e : Nat) : Nat := tq_c (tq_o og (og e)) e
def tq_kn (og kc : Nat → Nat) (r e : Nat) : Bool := decide (tq_nu og e ≤ kc (r * 3 + og e))
def tq_D (og bs kc : Nat → Nat) (dl : Nat → Bool) (r e : Nat) : Nat → Bool := fun d => dl d && (decide (bs d = e) && tq_kn og kc r d)
def tq_tk (M : Nat) (og bs kc : Nat → Nat) (dl : Nat → Bool) (r e : Nat) : Bool := decide (1 ≤ tq_c (tq_D og bs kc dl r e) M)
def tq_se (M : Nat) (og bs kc : Nat → Nat) (dl : Nat → Bool) (r e : Nat) : Bool := tq_kn og kc r e && !tq_tk M og bs kc dl r e
def tq_S (M : Nat) (og bs kc ln : Nat → Nat) (dl : Nat → Bool) (r : Nat) : Nat → Bool := fun i => tq_se M og bs kc dl r (ln i)
def tq_sk (st og : Nat → Nat) (e : Nat) : Nat := 3 * st e + og e
/-- the line: each entry's anchor is the last smaller one ahead of it -/
def tq_L (N : Nat) (bs ln sk : Nat → Nat) : Prop :=
  ∀ i, 1 ≤ i → i ≤ N → ∃ j, j < i ∧ bs (ln i) = ln j ∧ sk (ln j) < sk (ln i) ∧ ∀ m, j < m → m < i → sk (ln i) < sk (ln m)
def tq_PI (M N : Nat) (og bs st kc ln : Nat → Nat) (dl : Nat → Bool) : Prop :=
  (M ≤ 48 ∧ og 0 = 0 ∧ st 0 = 0 ∧ ln 0 = 0) ∧
  (∀ e, 1 ≤ e → e ≤ M → og e < 3 ∧ bs e < e ∧ 1 ≤ st e ∧ st e ≤ e) ∧
  (∀ e r, 1 ≤ e → e ≤ M → r < 3 → tq_kn og kc r e = true → tq_kn og kc r (bs e) = true) ∧
  (∀ r o, r < 3 → o < 3 → kc (r * 3 + o) ≤ tq_c (tq_o og o) M) ∧
  (∀ o, o < 3 → kc (o * 3 + o) = tq_c (tq_o og o) M) ∧
  (∀ e d, 1 ≤ e → e ≤ M → 1 ≤ d → d ≤ M → dl e = false → dl d = false → tq_sk st og e = tq_sk st og d → e = d) ∧
  (∀ i, 1 ≤ i → i ≤ N → 1 ≤ ln i ∧ ln i ≤ M ∧ dl (ln i) = false) ∧
  tq_L N bs ln (tq_sk st og) ∧
  (∀ P : Nat → Bool, tq_c (fun i => P (ln i)) N = tq_c (fun e => !dl e && P e) M)
section
variable {M N : Nat} {og bs st kc ln : Nat → Nat} {dl : Nat → Bool}
theorem tq_pN (h : tq_PI M N og bs st kc ln dl) : N ≤ M := by
  have a := h.2.2.2.2.2.2.2.2 (fun _ => true)
  rw [tq_call] at a
  rw [a]
  exact tq_cle _ M
theorem tq_pos (h : tq_PI M N og bs st kc ln dl) {e : Nat} (h1 : 1 ≤ e) (hM : e ≤ M) (hd : dl e = false) : ∃ i, 1 ≤ i ∧ i ≤ N ∧ ln i = e := by
  have a := h.2.2.2.2.2.2.2.2 (fun d => decide (d = e))
  have b := tq_cpos (P := fun d => !dl d && decide (d = e)) h1 hM (by simp [hd])
  obtain ⟨i, i1, iN, ie, _⟩ := tq_cex (P := fun i => decide (ln i = e)) (n := N) (q := 0) (by omega)
  exact ⟨i, i1, iN, of_decide_eq_true ie⟩
theorem tq_lninj0 (h : tq_PI M N og bs st kc ln dl) {i j : Nat} (h1 : 1 ≤ i) (hij : i < j) (hj : j ≤ N) : ln i ≠ ln j := by
  intro z
  have a := h.2.2.2.2.2.2.2.2 (fun d => decide (d = ln i))
  have b := tq_ctwo (P := fun m => decide (ln m = ln i)) h1 hij hj (by simp) (by simp [z])
  have c := tq_cone (P := fun d => !dl d && decide (d = ln i)) (n := M) (by
    intro e d _ _ _ _ he hd
    simp at he hd
    exact he.2.trans hd.2.symm)
  omega
theorem tq_lninj (h : tq_PI M N og bs st kc ln dl) {i j : Nat} (hi : i ≤ N) (hj : j ≤ N) (z : ln i = ln j) : i = j := by
  have h0 := h.1.2.2.2
  by_cases i0 : i = 0
  · by_cases j0 : j = 0
    · omega
    · have := (h.2.2.2.2.2.2.1 j (by omega) hj).1
      rw [i0, h0] at z
      omega
  · by_cases j0 : j = 0
    · have := (h.2.2.2.2.2.2.1 i (by omega) hi).1
      rw [j0, h0] at z
      omega
    · rcases Nat.lt_trichotomy i j with c | c | c
      · exact absurd z (tq_lninj0 h (by omega) c hj)
      · exact c
      · exact absurd z.symm (tq_lninj0 h (by omega) c hi)
theorem tq_sk0 (h : tq_PI M N og bs st kc ln dl) : tq_sk st og 0 = 0 := by
  unfold tq_sk
  rw [h.1.2.1, h.1.2.2.1]
theorem tq_kn0 (h : tq_PI M N og bs st kc ln dl) (r : Nat) : tq_kn og kc r 0 = true := by
  unfold tq_kn tq_nu
  exact decide_eq_true (Nat.zero_le _)
/-- the entry of t's own place ahead: where the walk of known entries goes on behind place i -/
def tq_T (N : Nat) (ln : Nat → Nat) (K : Nat → Bool) (i t : Nat) : Prop :=
  (∃ i', i < i' ∧ i' ≤ N ∧ K (ln i') = true ∧ (∀ m, i < m → m < i' → K (ln m) = false) ∧ t = ln i') ∨ ((∀ m, i < m → m ≤ N → K (ln m) = false) ∧ t = 0)
theorem tq_Tex (N : Nat) (ln : Nat → Nat) (K : Nat → Bool) (i : Nat) : ∃ t, tq_T N ln K i t := by
  by_cases z : ∃ m, i < m ∧ m ≤ N ∧ K (ln m) = true
  · obtain ⟨m, ⟨a, b, c⟩, d⟩ := pk_least _ z
    refine ⟨ln m, Or.inl ⟨m, a, b, c, fun q q1 q2 => ?_, rfl⟩⟩
    cases hq : K (ln q)
    · rfl
    · exact absurd ⟨q1, by omega, hq⟩ (d q q2)
  · refine ⟨0, Or.inr ⟨fun q q1 q2 => ?_, rfl⟩⟩
    cases hq : K (ln q)
    · rfl
    · exact absurd ⟨q, q1, q2, hq⟩ z
/-- what 'following' looks for, and what it finds among the first n -/
def tq_F (M : Nat) (bs : Nat → Nat) (dl : Nat → Bool) (K : Nat → Bool) (sk : Nat → Nat) (a b e : Nat) : Prop :=
  1 ≤ e ∧ e ≤ M ∧ dl e = false ∧ K e = true ∧ bs e = a ∧ (b = 0 ∨ sk e < sk b)
def tq_G (M : Nat) (bs : Nat → Nat) (dl : Nat → Bool) (K : Nat → Bool) (sk : Nat → Nat) (a b n x : Nat) : Prop :=
  (x = 0 ∧ ∀ e, e ≤ n → ¬ tq_F M bs dl K sk a b e) ∨ (tq_F M bs dl K sk a b x ∧ x ≤ n ∧ ∀ e, e ≤ n → tq_F M bs dl K sk a b e → sk e ≤ sk x)
theorem tq_G0 {K : Nat → Bool} {sk : Nat → Nat} {a b x : Nat} (g : tq_G M bs dl K sk a b M x) (z : ∀ e, ¬ tq_F M bs dl K sk a b e) : x = 0 := by
  rcases g with g | g
  · exact g.1
  · exact absurd g.1 (z x)
theorem tq_GY (h : tq_PI M N og bs st kc ln dl) {K : Nat → Bool} {a b x y : Nat} (g : tq_G M bs dl K (tq_sk st og) a b M x) (hy : tq_F M bs dl K (tq_sk st og) a b y)
    (hm : ∀ e, tq_F M bs dl K (tq_sk st og) a b e → tq_sk st og e ≤ tq_sk st og y) : x = y := by
  rcases g with g | g
  · exact absurd hy (g.2 y hy.2.1)
  · have u := hm x g.1
    have v := g.2.2 y hy.2.1 hy
    exact h.2.2.2.2.2.1 x y g.1.1 g.1.2.1 hy.1 hy.2.1 g.1.2.2.1 hy.2.2.1 (by omega)
/-- the place of what fits: behind the place of its anchor -/
theorem tq_Fp (h : tq_PI M N og bs st kc ln dl) {K : Nat → Bool} {b e q : Nat} (hq : q ≤ N) (f : tq_F M bs dl K (tq_sk st og) (ln q) b e) :
    ∃ p, q < p ∧ p ≤ N ∧ ln p = e ∧ tq_sk st og (ln q) < tq_sk st og e ∧ ∀ m, q < m → m < p → tq_sk st og e < tq_sk st og (ln m) := by
  obtain ⟨p, p1, pN, rfl⟩ := tq_pos h f.1 f.2.1 f.2.2.1
  obtain ⟨j, j1, j2, j3, j4⟩ := h.2.2.2.2.2.2.2.1 p p1 pN
  have e := tq_lninj h (i := j) (j := q) (by omega) hq (j2.symm.trans f.2.2.2.2.1)
  subst e
  exact ⟨p, j1, pN, rfl, j3, j4⟩
/-- the child: the walk's next entry, if it is greater -/
theorem tq_child (h : tq_PI M N og bs st kc ln dl) {r i t x : Nat} (hr : r < 3) (hi : i ≤ N) (hT : tq_T N ln (tq_kn og kc r) i t)
    (g : tq_G M bs dl (tq_kn og kc r) (tq_sk st og) (ln i) 0 M x) : (x = 0 ∧ (t = 0 ∨ tq_sk st og t < tq_sk st og (ln i))) ∨ (1 ≤ x ∧ x = t) := by
  rcases hT with ⟨i', a1, a2, a3, a4, rfl⟩ | ⟨a4, rfl⟩
  · obtain ⟨j, j1, j2, j3, j4⟩ := h.2.2.2.2.2.2.2.1 i' (by omega) a2
    have hl := h.2.2.2.2.2.2.1 i' (by omega) a2
    have hkj : tq_kn og kc r (ln j) = true := by
      rw [← j2]
      exact h.2.2.1 (ln i') r hl.1 hl.2.1 hr a3
    have hji : ¬ i < j := fun z => by
      have := a4 j z j1
      rw [hkj] at this
      exact Bool.noConfusion this
    by_cases c : j = i
    · subst c
      right
      have e := tq_GY h g (y := ln i') ⟨hl.1, hl.2.1, hl.2.2, a3, j2, Or.inl rfl⟩ (by
        intro e f
        obtain ⟨p, p1, p2, p3, p4, p5⟩ := tq_Fp h hi f
        by_cases w : p < i'
        · have := a4 p p1 w
          rw [p3, f.2.2.2.1] at this
          exact Bool.noConfusion this
        · by_cases w2 : p = i'
          · rw [← w2, p3]
            exact Nat.le_refl _
          · have := p5 i' a1 (by omega)
            omega)
      exact ⟨by rw [e]; exact hl.1, e⟩
    · left
      have s := j4 i (by omega) a1
      refine ⟨tq_G0 g ?_, Or.inr s⟩
      intro e f
      obtain ⟨p, p1, p2, p3, p4, p5⟩ := tq_Fp h hi f
      by_cases w : p < i'
      · have := a4 p p1 w
        rw [p3, f.2.2.2.1] at this
        exact Bool.noConfusion this
      · by_cases w2 : p = i'
        · rw [← p3, w2] at p4
          omega
        · have := p5 i' a1 (by omega)
          omega
  · left
    refine ⟨tq_G0 g ?_, Or.inl rfl⟩
    intro e f
    obtain ⟨p, p1, p2, p3, p4, p5⟩ := tq_Fp h hi f
    have := a4 p p1 p2
    rw [p3, f.2.2.2.1] at this
    exact Bool.noConfusion this
/-- what the climb keeps: at the entry of place q nothing known behind it is smaller, up to i, but the walk's next entry is -/
def tq_U (bs st og kc ln : Nat → Nat) (r i t q : Nat) : Prop :=
  q ≤ i ∧ tq_kn og kc r (ln q) = true ∧ (∀ m, q < m → m ≤ i → tq_kn og kc r (ln m) = true → tq_sk st og (ln q) < tq_sk st og (ln m)) ∧ (t = 0 ∨ tq_sk st og t < tq_sk st og (ln q))
theorem tq_bro (h : tq_PI M N og bs st kc ln dl) {r i t x q : Nat} (hr : r < 3) (hi : i ≤ N) (hT : tq_T N ln (tq_kn og kc r) i t) (hU : tq_U bs st og kc ln r i t q) (hq : 1 ≤ q)
    (g : tq_G M bs dl (tq_kn og kc r) (tq_sk st og) (bs (ln q)) (ln q) M x) : (x = 0 ∧ ∃ b, b < q ∧ bs (ln q) = ln b ∧ tq_U bs st og kc ln r i t b) ∨ (1 ≤ x ∧ x = t) := by
  obtain ⟨u1, u2, u3, u4⟩ := hU
  obtain ⟨b, b1, b2, b3, b4⟩ := h.2.2.2.2.2.2.2.1 q hq (by omega)
  have hlq := h.2.2.2.2.2.2.1 q hq (by omega)
  have hkb : tq_kn og kc r (ln b) = true := by
    rw [← b2]
    exact h.2.2.1 (ln q) r hlq.1 hlq.2.1 hr u2
  have v3 : ∀ m, b < m → m ≤ i → tq_kn og kc r (ln m) = true → tq_sk st og (ln b) < tq_sk st og (ln m) := by
    intro m m1 m2 m3
    rcases Nat.lt_trichotomy m q with c | c | c
    · have := b4 m m1 c
      omega
    · rw [c]
      exact b3
    · have := u3 m c m2 m3
      omega
  rw [b2] at g
  -- what fits lies behind i
  have beh : ∀ e, tq_F M bs dl (tq_kn og kc r) (tq_sk st og) (ln b) (ln q) e → ∃ p, i < p ∧ p ≤ N ∧ ln p = e ∧ tq_sk st og (ln b) < tq_sk st og e ∧ ∀ m, b < m → m < p → tq_sk st og e < tq_sk st og (ln m) := by
    intro e f
    obtain ⟨p, p1, p2, p3, p4, p5⟩ := tq_Fp h (by omega) f
    refine ⟨p, ?_, p2, p3, p4, p5⟩
    have lt : tq_sk st og e < tq_sk st og (ln q) := by
      rcases f.2.2.2.2.2 with z | z
      · omega
      · exact z
    by_cases w : i < p
    · exact w
    · rcases Nat.lt_trichotomy p q with c | c | c
      · have := b4 p p1 c
        rw [p3] at this
        omega
      · rw [← p3, c] at lt
        omega
      · have := u3 p c (by omega) (by rw [p3]; exact f.2.2.2.1)
        rw [p3] at this
        omega
  rcases hT with ⟨i', a1, a2, a3, a4, rfl⟩ | ⟨a4, rfl⟩
  · obtain ⟨j, j1, j2, j3, j4⟩ := h.2.2.2.2.2.2.2.1 i' (by omega) a2
    have hl := h.2.2.2.2.2.2.1 i' (by omega) a2
    have hkj : tq_kn og kc r (ln j) = true := by
      rw [← j2]
      exact h.2.2.1 (ln i') r hl.1 hl.2.1 hr a3
    have hji : ¬ i < j := fun z => by
      have := a4 j z j1
      rw [hkj] at this
      exact Bool.noConfusion this
    have lt : tq_sk st og (ln i') < tq_sk st og (ln q) := by
      rcases u4 with z | z
      · omega
      · exact z
    have hjb : ¬ b < j := fun z => by
      rcases Nat.lt_trichotomy j q with c | c | c
      · have := b4 j z c
        omega
      · rw [c] at j3
        omega
      · have := u3 j c (by omega) hkj
        omega
    by_cases c : j = b
    · subst c
      right
      have e := tq_GY h g (y := ln i') ⟨hl.1, hl.2.1, hl.2.2, a3, j2, Or.inr lt⟩ (by
        intro e f
        obtain ⟨p, p1, p2, p3, p4, p5⟩ := beh e f
        by_cases w : p < i'
        · have := a4 p p1 w
          rw [p3, f.2.2.2.1] at this
          exact Bool.noConfusion this
        · by_cases w2 : p = i'
          · rw [← w2, p3]
            exact Nat.le_refl _
          · have := p5 i' (by omega) (by omega)
            omega)
      exact ⟨by rw [e]; exact hl.1, e⟩
    · left
      have s := j4 b (by omega) (by omega)
      refine ⟨tq_G0 g ?_, b, b1, b2, by omega, hkb, v3, Or.inr s⟩
      intro e f
      obtain ⟨p, p1, p2, p3, p4, p5⟩ := beh e f
      by_cases w : p < i'
      · have := a4 p p1 w
        rw [p3, f.2.2.2.1] at this
        exact Bool.noConfusion this
      · by_cases w2 : p = i'
        · rw [← p3, w2] at p4
          omega
        · have := p5 i' (by omega) (by omega)
          omega
  · left
    refine ⟨tq_G0 g ?_, b, b1, b2, by omega, hkb, v3, Or.inl rfl⟩
    intro e f
    obtain ⟨p, p1, p2, p3, p4, p5⟩ := beh e f
    have := a4 p p1 p2
    rw [p3, f.2.2.2.1] at this
    exact Bool.noConfusion this
end
