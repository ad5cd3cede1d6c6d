/-! tokens: what they are -/
def sC (x : Int32) : Int32 := if x = 32 then 0 else if x < 97 then (if x < 48 then 3 else if 57 < x then 3 else 2) else if 122 < x then (if x < 48 then 3 else if 57 < x then 3 else 2) else 1
theorem sC_v (x : Int32) : sC x = 0 ∨ sC x = 1 ∨ sC x = 2 ∨ sC x = 3 := by
  unfold sC
  (repeat' split) <;> decide
theorem sC_0 {x : Int32} (h : sC x = 0) : x = 32 := by
  unfold sC at h
  split at h
  · assumption
  · exfalso
    revert h
    (repeat' split) <;> decide
theorem sC_32 : sC 32 = 0 := by decide
theorem X9_sortAt_eq {S : aSt} {i : Nat} (h : i < 200) : X9_sortAt_1 (nI i) S = sC (S.2.2 2 i) := by
  unfold X9_sortAt_1 X9_sortAt_1_b31 sC
  simp only [aLet]
  rw [X6_at_2_eq h]
def isR (s : Int32) : Bool := decide (s = 1) || decide (s = 2)
theorem X9_isRow_eq (s : Int32) : X9_isRow s = b32 (isR s) := by
  unfold X9_isRow isR
  by_cases c1 : s = 1
  · rw [if_pos c1, decide_eq_true c1]; rfl
  · rw [if_neg c1, decide_eq_false c1]
    by_cases c2 : s = 2
    · rw [if_pos c2, decide_eq_true c2]; rfl
    · rw [if_neg c2, decide_eq_false c2]; rfl
def isB (b : Nat → Int32) (i : Nat) : Bool := decide (sC (b i) ≠ 0) && !(isR (sC (b i)) && decide (0 < i) && decide (sC (b (i - 1)) = sC (b i)))
theorem X9_isBegin_eq {S : aSt} {i : Nat} (h : i < 200) : X9_isBegin_1 (nI i) S = b32 (isB (S.2.2 2) i) := by
  have hq : ∀ (s : Int32) (c : Bool), X9_isBegin_1_b33 S s (b32 c) = b32 (decide (s ≠ 0) && !c) := by
    intro s c
    unfold X9_isBegin_1_b33
    by_cases c1 : s = 0
    · rw [if_pos c1, decide_eq_false (fun z => z c1)]; rfl
    · rw [if_neg c1, decide_eq_true c1]
      cases c <;> rfl
  have h0 : ∀ s : Int32, X9_isBegin_1_b32 S s = b32 (decide (s ≠ 0) && !false) := fun s => hq s false
  have h1 : ∀ s : Int32, X9_isBegin_1_b33 S s 1 = b32 (decide (s ≠ 0) && !true) := fun s => hq s true
  unfold X9_isBegin_1 isB
  simp only [aLet]
  rw [X9_sortAt_eq h, X9_isRow_eq]
  by_cases c1 : isR (sC (S.2.2 2 i)) = true
  · rw [if_neg (fun q => (b32_0 _).mp q c1), c1, Bool.true_and]
    by_cases c2 : i = 0
    · rw [if_pos (by rw [c2]; decide), h0, decide_eq_false (show ¬ 0 < i by omega), Bool.false_and]
    · rw [if_neg (by exact iNLE i 0 (by omega)), show nI i - (1 : Int32) = nI (i - 1) from pk_sub (b := 1) (by omega), X9_sortAt_eq (by omega), decide_eq_true (show 0 < i by omega), Bool.true_and]
      by_cases c3 : sC (S.2.2 2 (i - 1)) = sC (S.2.2 2 i)
      · rw [if_pos c3, h1, decide_eq_true c3]
      · rw [if_neg c3, h0, decide_eq_false c3]
  · rw [if_pos ((b32_0 _).mpr c1), h0, Bool.eq_false_iff.mpr c1, Bool.false_and, Bool.false_and]
def fb (b : Nat → Int32) : Nat → Nat → Nat
  | 0, j => j
  | r + 1, j => if isB b j = true then j else fb b r (j + 1)
def bl (b : Nat → Int32) : Nat → Nat → Nat
  | 0, j => j
  | r + 1, j => if b j = 32 then bl b r (j + 1) else j
def eL (b : Nat → Int32) (s : Int32) : Nat → Nat → Nat
  | 0, j => j
  | r + 1, j => if sC (b j) = s then eL b s r (j + 1) else j
theorem bl_le (b : Nat → Int32) : ∀ r j, j ≤ bl b r j ∧ bl b r j ≤ j + r := by
  intro r
  induction r with
  | zero => intro j; exact ⟨Nat.le_refl _, Nat.le_refl _⟩
  | succ r ih =>
    intro j
    rw [bl]
    have := ih (j + 1)
    split <;> omega
theorem eL_le (b : Nat → Int32) (s : Int32) : ∀ r j, j ≤ eL b s r j ∧ eL b s r j ≤ j + r := by
  intro r
  induction r with
  | zero => intro j; exact ⟨Nat.le_refl _, Nat.le_refl _⟩
  | succ r ih =>
    intro j
    rw [eL]
    have := ih (j + 1)
    split <;> omega
theorem fb_bl {b : Nat → Int32} : ∀ r j, (0 < r → ¬ (isR (sC (b j)) = true ∧ 0 < j ∧ sC (b (j - 1)) = sC (b j))) → fb b r j = bl b r j := by
  intro r
  induction r with
  | zero => intro j _; rfl
  | succ r ih =>
    intro j h
    rw [fb, bl]
    by_cases c : b j = 32
    · have e : isB b j = false := by
        unfold isB
        rw [c, sC_32]
        rfl
      rw [e, if_neg (by decide), if_pos c]
      refine ih (j + 1) (fun _ z => ?_)
      have z3 : sC (b j) = sC (b (j + 1)) := z.2.2
      rw [c, sC_32] at z3
      have z1 := z.1
      rw [← z3] at z1
      exact absurd z1 (by decide)
    · have c0 : sC (b j) ≠ 0 := fun z => c (sC_0 z)
      have e : isB b j = true := by
        have hn := h (by omega)
        unfold isB
        rw [decide_eq_true c0, Bool.true_and]
        cases k1 : isR (sC (b j))
        · rfl
        · by_cases k2 : 0 < j
          · by_cases k3 : sC (b (j - 1)) = sC (b j)
            · exact absurd ⟨k1, k2, k3⟩ hn
            · rw [decide_eq_false k3, Bool.and_false]; rfl
          · rw [decide_eq_false k2]; rfl
      rw [if_pos e, if_neg c]
theorem fb_eL {b : Nat → Int32} {s : Int32} (hs : isR s = true) : ∀ r j, 0 < j → sC (b (j - 1)) = s → fb b r j = bl b (j + r - eL b s r j) (eL b s r j) := by
  intro r
  induction r with
  | zero => intro j h1 h2; rw [eL, Nat.add_zero, Nat.sub_self]; rfl
  | succ r ih =>
    intro j h1 h2
    by_cases c : sC (b j) = s
    · have e : isB b j = false := by
        unfold isB
        rw [c, hs, decide_eq_true h1, h2, decide_eq_true rfl]
        simp
      rw [eL, if_pos c, fb, e, if_neg (by decide), ih (j + 1) (by omega) c]
      congr 1
      omega
    · rw [eL, if_neg c, Nat.add_sub_cancel_left]
      refine fb_bl (r + 1) j (fun _ z => c ?_)
      rw [← z.2.2]
      exact h2
def nx (b : Nat → Int32) (t a : Nat) : Nat := bl b (t - a) a
def en (b : Nat → Int32) (t p : Nat) : Nat := if p < t then (if isR (sC (b p)) = true then eL b (sC (b p)) (t - (p + 1)) (p + 1) else p + 1) else p
def pos (b : Nat → Int32) (t : Nat) : Nat → Nat
  | 0 => nx b t 0
  | k + 1 => nx b t (en b t (pos b t k))
theorem nx_le {b : Nat → Int32} {t a : Nat} (h : a ≤ t) : a ≤ nx b t a ∧ nx b t a ≤ t := by
  have := bl_le b (t - a) a
  unfold nx
  omega
theorem en_le {b : Nat → Int32} {t p : Nat} (h : p ≤ t) : p ≤ en b t p ∧ en b t p ≤ t ∧ (p < t → p < en b t p) := by
  unfold en
  by_cases c : p < t
  · rw [if_pos c]
    split
    · have := eL_le b (sC (b p)) (t - (p + 1)) (p + 1)
      omega
    · omega
  · rw [if_neg c]; omega
theorem pos_le (b : Nat → Int32) (t : Nat) : ∀ k, pos b t k ≤ t
  | 0 => (nx_le (Nat.zero_le t)).2
  | k + 1 => (nx_le (en_le (pos_le b t k)).2.1).2
theorem fb_next {b : Nat → Int32} {t p : Nat} (hp : p < t) : fb b (t - (p + 1)) (p + 1) = nx b t (en b t p) := by
  unfold nx en
  rw [if_pos hp]
  by_cases c : isR (sC (b p)) = true
  · rw [if_pos c, fb_eL c (t - (p + 1)) (p + 1) (by omega) rfl]
    congr 1
    omega
  · rw [if_neg c]
    refine fb_bl _ _ (fun _ z => c ?_)
    have z3 : sC (b p) = sC (b (p + 1)) := z.2.2
    rw [z3]
    exact z.1
def vL (b : Nat → Int32) : Nat → Nat → Int32 → Int32
  | 0, _, v => v
  | r + 1, j, v => vL b r (j + 1) ((v * (10 : Int32) + b j) - (48 : Int32))
def tc (b : Nat → Int32) (t p : Nat) : Int32 := if p < t then (if sC (b p) = 1 then (if wk b p (en b t p) = 9 then 3 else nI (10 + wk b p (en b t p))) else if sC (b p) = 2 then 1 else if b p = 59 then 2 else 3) else 0
def vc (b : Nat → Int32) (t p : Nat) : Int32 := if p < t ∧ sC (b p) = 2 ∧ en b t p - p ≤ 6 then vL b (en b t p - p) p 0 else -1
/-! tokens: the class splits -/
theorem X6_set_3_eq {S : aSt} {i : Nat} {v : Int32} (h : i < 201) : X6_set_3 (nI i) v S = aA S 3 (upd (S.2.2 3) i v) := by
  unfold X6_set_3
  rw [if_neg (nI_pos (by omega)), if_neg (by exact iNLE 201 i h), nI_clamp (by omega)]
theorem X6_set_4_eq {S : aSt} {i : Nat} {v : Int32} (h : i < 201) : X6_set_4 (nI i) v S = aA S 4 (upd (S.2.2 4) i v) := by
  unfold X6_set_4
  rw [if_neg (nI_pos (by omega)), if_neg (by exact iNLE 201 i h), nI_clamp (by omega)]
theorem X6_set_5_eq {S : aSt} {i : Nat} {v : Int32} (h : i < 201) : X6_set_5 (nI i) v S = aA S 5 (upd (S.2.2 5) i v) := by
  unfold X6_set_5
  rw [if_neg (nI_pos (by omega)), if_neg (by exact iNLE 201 i h), nI_clamp (by omega)]
theorem c_value {N p e : Nat} {S : aSt} (hp : p ≤ e) (he : e ≤ 200) (hN : 300 ≤ N) : X9_valueOf_1 N (nI p) (nI e) S = some (if e - p ≤ 6 then vL (S.2.2 2) (e - p) p 0 else -1) := by
  have lp : ∀ (r j f : Nat) (v : Int32), j + r = e → r < f → X9_valueOf_1_l15 N S f (nI e) v (nI j) = some (vL (S.2.2 2) r j v) := by
    intro r
    induction r with
    | zero =>
      intro j f v hj hf
      obtain ⟨f, rfl⟩ : ∃ q, f = q + 1 := ⟨f - 1, by omega⟩
      show X9_valueOf_1_b15 N S (X9_valueOf_1_l15 N S f) _ _ _ = _
      unfold X9_valueOf_1_b15
      rw [if_pos (by exact iLE e j (by omega))]
      rfl
    | succ r ih =>
      intro j f v hj hf
      obtain ⟨f, rfl⟩ : ∃ q, f = q + 1 := ⟨f - 1, by omega⟩
      show X9_valueOf_1_b15 N S (X9_valueOf_1_l15 N S f) _ _ _ = _
      unfold X9_valueOf_1_b15
      simp only [aLet]
      rw [if_neg (by exact iNLE e j (by omega)), X6_at_2_eq (by omega), nI_1]
      exact ih (j + 1) f _ (by omega) (by omega)
  unfold X9_valueOf_1
  rw [pk_sub hp]
  by_cases c : e - p ≤ 6
  · rw [if_pos (by exact iLE (e - p) 6 c), if_pos c]
    exact lp (e - p) p N 0 (by omega) (by omega)
  · rw [if_neg (by exact iNLE (e - p) 6 (by omega)), if_neg c]
def tokS (S : aSt) (k : Nat) (a c v : Int32) : aSt := aA (aA (aA S 4 (upd (S.2.2 4) k a)) 5 (upd (S.2.2 5) k v)) 3 (upd (S.2.2 3) k c)
theorem c_tokE {N k p e : Nat} {S : aSt} {s : Int32} (hk : k < 201) (hp : p < e) (he : e ≤ 200) (hN : 300 ≤ N) (hs : s = sC (S.2.2 2 p)) (hs0 : s ≠ 0) : X9_setToken_1_b43 N (nI k) (nI p) s (nI e) S = some (tokS S k (nI p) (if s = 1 then (if wk (S.2.2 2) p e = 9 then 3 else nI (10 + wk (S.2.2 2) p e)) else if s = 2 then 1 else if S.2.2 2 p = 59 then 2 else 3) (if s = 2 ∧ e - p ≤ 6 then vL (S.2.2 2) (e - p) p 0 else -1)) := by
  have g2 : ∀ f g : Nat → Int32, (aA (aA S 4 f) 5 g).2.2 2 = S.2.2 2 := fun f g => by rw [gA, if_neg (by decide), gA, if_neg (by decide)]
  have g3 : ∀ f g : Nat → Int32, (aA (aA S 4 f) 5 g).2.2 3 = S.2.2 3 := fun f g => by rw [gA, if_neg (by decide), gA, if_neg (by decide)]
  have g5 : ∀ f : Nat → Int32, (aA S 4 f).2.2 5 = S.2.2 5 := fun f => by rw [gA, if_neg (by decide)]
  have g4 : ∀ f : Nat → Int32, (aA S 4 f).2.2 2 = S.2.2 2 := fun f => by rw [gA, if_neg (by decide)]
  have h73 : ∀ v : Int32, X9_setToken_1_b73 N (nI k) (nI p) s (nI e) v (nI k) (aA S 4 (upd (S.2.2 4) k (nI p))) = some (tokS S k (nI p) (if s = 1 then (if wk (S.2.2 2) p e = 9 then 3 else nI (10 + wk (S.2.2 2) p e)) else if s = 2 then 1 else if S.2.2 2 p = 59 then 2 else 3) v) := by
    intro v
    unfold X9_setToken_1_b73 X9_setToken_1_b139
    simp only [aLet]
    rw [X6_set_5_eq hk, g5]
    by_cases c1 : s = 1
    · rw [if_pos c1, if_pos c1, c_wordOf (by omega) (by omega) he, g2]
      simp only [Option.bind_some]
      rw [X6_set_3_eq hk, g3]
      rfl
    · rw [if_neg c1, if_neg c1]
      by_cases c2 : s = 2
      · rw [if_pos c2, if_pos c2, X6_set_3_eq hk, g3]
        rfl
      · rw [if_neg c2, if_neg c2, X6_at_2_eq (by omega), g2]
        by_cases c3 : S.2.2 2 p = 59
        · rw [if_pos c3, if_pos c3, X6_set_3_eq hk, g3]
          rfl
        · rw [if_neg c3, if_neg c3, X6_set_3_eq hk, g3]
          rfl
  unfold X9_setToken_1_b43
  simp only [aLet]
  rw [X6_set_4_eq hk]
  by_cases c2 : s = 2
  · rw [if_pos c2, c_value (by omega) he hN, g4]
    simp only [Option.bind_some]
    rw [h73]
    by_cases c6 : e - p ≤ 6
    · rw [if_pos c6, if_pos (show s = 2 ∧ e - p ≤ 6 from ⟨c2, c6⟩)]
    · rw [if_neg c6, if_neg (show ¬ (s = 2 ∧ e - p ≤ 6) from fun z => c6 z.2)]
  · rw [if_neg c2, h73, if_neg (show ¬ (s = 2 ∧ e - p ≤ 6) from fun z => c2 z.1)]
theorem c_tok {N k p t : Nat} {S : aSt} {b : Nat → Int32} (hN : 300 ≤ N) (hk : k < 201) (hp : p < t) (ht : t ≤ 200) (hS : S.1 1 0 = nI t) (hb : S.2.2 2 = b) (h0 : sC (b p) ≠ 0) : X9_setToken_1 N (nI k) (nI p) S = some (tokS S k (nI p) (tc b t p) (vc b t p)) := by
  subst hb
  have lp : ∀ (s : Int32), isR s = true → ∀ (r j f : Nat), j + r = t → r < f → X9_setToken_1_l11 N f (nI k) (nI p) s (nI j) S = X9_setToken_1_b43 N (nI k) (nI p) s (nI (eL (S.2.2 2) s r j)) S := by
    intro s hs r
    induction r with
    | zero =>
      intro j f hj hf
      obtain ⟨f, rfl⟩ : ∃ q, f = q + 1 := ⟨f - 1, by omega⟩
      show X9_setToken_1_b11 N (X9_setToken_1_l11 N f) _ _ _ _ _ = _
      unfold X9_setToken_1_b11
      simp only [aLet]
      rw [X9_isRow_eq, if_neg (fun q => (b32_0 _).mp q hs), hS, if_pos (by exact iLE t j (by omega))]
      rfl
    | succ r ih =>
      intro j f hj hf
      obtain ⟨f, rfl⟩ : ∃ q, f = q + 1 := ⟨f - 1, by omega⟩
      show X9_setToken_1_b11 N (X9_setToken_1_l11 N f) _ _ _ _ _ = _
      unfold X9_setToken_1_b11
      simp only [aLet]
      rw [X9_isRow_eq, if_neg (fun q => (b32_0 _).mp q hs), hS, if_neg (by exact iNLE t j (by omega)), X9_sortAt_eq (by omega), nI_1, eL]
      by_cases c : sC (S.2.2 2 j) = s
      · rw [if_pos c, if_pos c]
        exact ih (j + 1) f (by omega) (by omega)
      · rw [if_neg c, if_neg c]
  have hend : X9_setToken_1_l11 N N (nI k) (nI p) (sC (S.2.2 2 p)) (nI (p + 1)) S = X9_setToken_1_b43 N (nI k) (nI p) (sC (S.2.2 2 p)) (nI (en (S.2.2 2) t p)) S := by
    unfold en
    rw [if_pos hp]
    by_cases c : isR (sC (S.2.2 2 p)) = true
    · rw [if_pos c]
      exact lp _ c (t - (p + 1)) (p + 1) N (by omega) (by omega)
    · rw [if_neg c]
      obtain ⟨g, rfl⟩ : ∃ q, N = q + 1 := ⟨N - 1, by omega⟩
      show X9_setToken_1_b11 (g + 1) (X9_setToken_1_l11 (g + 1) g) _ _ _ _ _ = _
      unfold X9_setToken_1_b11
      simp only [aLet]
      rw [X9_isRow_eq, if_pos ((b32_0 _).mpr c)]
  have he := en_le (b := S.2.2 2) (show p ≤ t by omega)
  unfold X9_setToken_1
  simp only [aLet]
  rw [X9_sortAt_eq (by omega), nI_1, hend, c_tokE hk (he.2.2 hp) (by omega) hN rfl h0]
  unfold tc vc
  rw [if_pos hp]
  congr 2
  by_cases c : sC (S.2.2 2 p) = 2 ∧ en (S.2.2 2) t p - p ≤ 6
  · rw [if_pos c, if_pos ⟨hp, c⟩]
  · rw [if_neg c, if_neg (fun z => c z.2)]
/-- tokens m below k stand in the rows -/
def tkL (S : aSt) (b : Nat → Int32) (t k : Nat) : Prop := ∀ m, m < k → S.2.2 4 m = nI (pos b t m) ∧ S.2.2 3 m = tc b t (pos b t m) ∧ S.2.2 5 m = vc b t (pos b t m)
theorem tkL_s {S : aSt} {b : Nat → Int32} {t k : Nat} (h : tkL S b t k) : tkL (tokS S k (nI (pos b t k)) (tc b t (pos b t k)) (vc b t (pos b t k))) b t (k + 1) := by
  intro m hm
  unfold tokS
  rw [gA, if_neg (by decide), gA, if_neg (by decide), gA, if_pos rfl, gA, if_pos rfl, gA, if_neg (by decide), gA, if_pos rfl, gU, gU, gU]
  by_cases c : m = k
  · rw [if_pos c, if_pos c, if_pos c, c]
    exact ⟨rfl, rfl, rfl⟩
  · rw [if_neg c, if_neg c, if_neg c]
    exact h m (by omega)
def TS (S : aSt) (b : Nat → Int32) (t M : Nat) : Prop := M ≤ t ∧ pos b t M = t ∧ (∀ m, m < M → pos b t m < t) ∧ tkL S b t (M + 1)
theorem c_split_l {N t : Nat} {b : Nat → Int32} (hN : 300 ≤ N) (ht : t ≤ 200) : ∀ (r i k f : Nat) (S : aSt), i + r = t → r < f → k ≤ i → S.1 1 0 = nI t → S.2.2 2 = b → fb b r i = pos b t k → (∀ m, m < k → pos b t m < t) → tkL S b t k → ∃ T M, X9_split_1_l4 N f (nI k) (nI i) S = some T ∧ TS T b t M := by
  intro r
  induction r with
  | zero =>
    intro i k f S hi hf hk hS hb hp hlt hL
    obtain ⟨f, rfl⟩ : ∃ q, f = q + 1 := ⟨f - 1, by omega⟩
    have e : i = t := by omega
    have hpk : pos b t k = t := by rw [← hp, e]; rfl
    refine ⟨aA (aA (aA S 3 (upd (S.2.2 3) k 0)) 4 (upd (S.2.2 4) k (nI t))) 5 (upd (S.2.2 5) k (-1)), k, ?_, by omega, hpk, hlt, ?_⟩
    · show X9_split_1_b4 N (X9_split_1_l4 N f) _ _ _ = _
      unfold X9_split_1_b4 X9_split_1_b35
      simp only [aLet]
      rw [hS, if_pos (by exact iLE t i (by omega)), X6_set_3_eq (by omega), X6_set_4_eq (by omega), X6_set_5_eq (by omega), gAi, hS, gA, if_neg (by decide), gA, if_neg (by decide), gA, if_neg (by decide)]
    · intro m hm
      rw [gA, if_neg (by decide), gA, if_pos rfl, gA, if_neg (by decide), gA, if_neg (by decide), gA, if_pos rfl, gA, if_pos rfl, gU, gU, gU]
      by_cases c : m = k
      · rw [if_pos c, if_pos c, if_pos c, c, hpk]
        unfold tc vc
        rw [if_neg (Nat.lt_irrefl t), if_neg (fun z => Nat.lt_irrefl t z.1)]
        exact ⟨rfl, rfl, rfl⟩
      · rw [if_neg c, if_neg c, if_neg c]
        exact hL m (by omega)
  | succ r ih =>
    intro i k f S hi hf hk hS hb hp hlt hL
    obtain ⟨f, rfl⟩ : ∃ q, f = q + 1 := ⟨f - 1, by omega⟩
    show ∃ T M, X9_split_1_b4 N (X9_split_1_l4 N f) _ _ _ = some T ∧ _
    unfold X9_split_1_b4 X9_split_1_b29
    simp only [aLet]
    rw [hS, if_neg (by exact iNLE t i (by omega)), X9_isBegin_eq (by omega), hb, nI_1, nI_1]
    rw [fb] at hp
    by_cases c : isB b i = true
    · rw [if_pos c] at hp
      have h0 : sC (b i) ≠ 0 := by
        unfold isB at c
        rw [Bool.and_eq_true, decide_eq_true_eq] at c
        exact c.1
      rw [if_neg (fun q => (b32_0 _).mp q c), c_tok hN (by omega) (show i < t by omega) ht hS hb h0]
      simp only [Option.bind_some]
      have hn := fb_next (b := b) (show i < t by omega)
      rw [show t - (i + 1) = r by omega] at hn
      refine ih (i + 1) (k + 1) f _ (by omega) (by omega) (by omega) ?_ ?_ ?_ ?_ ?_
      · unfold tokS; rw [gAi, gAi, gAi]; exact hS
      · unfold tokS; rw [gA, if_neg (by decide), gA, if_neg (by decide), gA, if_neg (by decide)]; exact hb
      · rw [hn, hp]; rfl
      · intro m hm
        by_cases c2 : m = k
        · rw [c2, ← hp]; omega
        · exact hlt m (by omega)
      · rw [hp]; exact tkL_s hL
    · rw [if_neg c] at hp
      rw [if_pos ((b32_0 _).mpr c)]
      exact ih (i + 1) k f S (by omega) (by omega) (by omega) hS hb hp hlt hL
theorem c_split {N t : Nat} {S : aSt} (hN : 300 ≤ N) (ht : t ≤ 200) (hS : S.1 1 0 = nI t) : ∃ T M, X9_split_1 N S = some T ∧ TS T (S.2.2 2) t M := by
  refine c_split_l hN ht t 0 0 N S (by omega) (by omega) (Nat.le_refl _) hS rfl ?_ (fun m hm => by omega) (fun m hm => by omega)
  exact fb_bl t 0 (fun _ z => Nat.lt_irrefl 0 z.2.1)
