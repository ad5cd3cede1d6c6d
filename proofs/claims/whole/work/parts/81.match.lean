/-! match: the least cost -/
def cI (F q : Nat → Nat) (a : Nat) : Nat → Nat
  | 0 => a + 1
  | b + 1 => min (q b + F b) (1 + min (F (b + 1)) (cI F q a b))
def cC (pr : Nat → Nat → Nat) (n m : Nat) : Nat → Nat → Nat
  | 0 => fun b => b
  | a + 1 => cI (cC pr n m a) (fun b => pr (n - (a + 1)) (m - (b + 1))) a
theorem cC_a0 {pr : Nat → Nat → Nat} {n m : Nat} (a : Nat) : cC pr n m a 0 = a := by cases a <;> rfl
theorem cC_s {pr : Nat → Nat → Nat} {n m : Nat} (a b : Nat) : cC pr n m (a + 1) (b + 1) = min (pr (n - (a + 1)) (m - (b + 1)) + cC pr n m a b) (1 + min (cC pr n m a (b + 1)) (cC pr n m (a + 1) b)) := rfl
theorem cC_le {pr : Nat → Nat → Nat} {n m : Nat} (a : Nat) : ∀ b, cC pr n m a b ≤ a + b ∧ cC pr n m a (b + 1) ≤ 1 + cC pr n m a b := by
  cases a with
  | zero =>
    intro b
    have h0 : cC pr n m 0 b = b := rfl
    have h1 : cC pr n m 0 (b + 1) = b + 1 := rfl
    omega
  | succ a =>
    intro b
    have hs : ∀ b, cC pr n m (a + 1) (b + 1) ≤ 1 + cC pr n m (a + 1) b := by
      intro b
      rw [cC_s]
      exact Nat.le_trans (Nat.min_le_right _ _) (Nat.add_le_add_left (Nat.min_le_right _ _) 1)
    refine ⟨?_, hs b⟩
    induction b with
    | zero => rw [cC_a0]; omega
    | succ b ih => have := hs b; omega
/-- the same, as the reference has it: over the lines from one on -/
def cnd (F q : Nat → Nat) (b i : Nat) : Nat := if q i = 100 then 1000 else b - (i + 1) + q i + F i
def lst (F q : Nat → Nat) (b : Nat) : Nat → Nat
  | 0 => 1 + F b
  | k + 1 => min (lst F q b k) (cnd F q b (b - 1 - k))
theorem cnd_v {F q : Nat → Nat} {b i p d : Nat} (hp : q i = p) (hd : b - (i + 1) = d) : cnd F q b i = if p = 100 then 1000 else d + p + F i := by
  unfold cnd
  rw [hp, hd]
theorem lst_le (F q : Nat → Nat) (b : Nat) : ∀ k, lst F q b k ≤ 1 + F b
  | 0 => Nat.le_refl _
  | k + 1 => Nat.le_trans (Nat.min_le_left _ _) (lst_le F q b k)
theorem lst_s {F q : Nat → Nat} {b : Nat} (h1 : F (b + 1) ≤ 1 + F b) (h2 : F (b + 1) ≤ 90) : ∀ k, k ≤ b → lst F q (b + 1) (k + 1) = min (min (q b + F b) (1 + F (b + 1))) (1 + lst F q b k) := by
  intro k
  induction k with
  | zero =>
    intro _
    rw [lst, lst, lst, show b + 1 - 1 - 0 = b by omega, cnd]
    split <;> omega
  | succ k ih =>
    intro hk
    have hi := ih (by omega)
    have hle := lst_le F q (b + 1) (k + 1)
    have e1 : lst F q (b + 1) (k + 2) = min (lst F q (b + 1) (k + 1)) (cnd F q (b + 1) (b - 1 - k)) := by
      rw [lst, show b + 1 - 1 - (k + 1) = b - 1 - k by omega]
    have e2 : lst F q b (k + 1) = min (lst F q b k) (cnd F q b (b - 1 - k)) := rfl
    have e3 : cnd F q (b + 1) (b - 1 - k) = 1 + cnd F q b (b - 1 - k) ∨ (cnd F q (b + 1) (b - 1 - k) = 1000 ∧ cnd F q b (b - 1 - k) = 1000) := by
      unfold cnd
      split
      · exact Or.inr ⟨rfl, rfl⟩
      · left; omega
    rw [e1, e2]
    rcases e3 with e3 | ⟨e3, e4⟩
    · rw [e3]; omega
    · rw [e3, e4]; omega
theorem lst_C {F q : Nat → Nat} {a : Nat} (h0 : F 0 = a) : ∀ b, (∀ b', b' < b → F (b' + 1) ≤ 1 + F b' ∧ F (b' + 1) ≤ 90) → lst F q b b = cI F q a b := by
  intro b
  induction b with
  | zero => intro _; rw [lst, cI, h0]; omega
  | succ b ih =>
    intro h
    have hi := ih (fun b' hb => h b' (by omega))
    have hb := h b (by omega)
    rw [lst_s hb.1 hb.2 b (Nat.le_refl _), hi, cI]
    omega
/-- what a pair costs -/
def pcN (v w : Nat) : Nat := if v = w then 0 else if kb v w = -1 then 100 else 1
theorem c_pair {N v w : Nat} (hN : 10 ≤ N) (hv0 : 1 ≤ v) (hv : v ≤ 999999) (hw0 : 1 ≤ w) (hw : w ≤ 999999) : X4_pairCost N (nI v) (nI w) = some (nI (pcN v w)) := by
  unfold X4_pairCost pcN
  rw [c_kind hN hv0 hv hw0 hw]
  simp only [Option.bind_some]
  by_cases c : v = w
  · rw [if_pos (by rw [c]), if_pos c]; rfl
  · rw [if_neg (by rw [nI_eq (by omega) (by omega)]; exact c), if_neg c]
    by_cases c2 : kb v w = -1
    · rw [if_pos c2, if_pos c2]; rfl
    · rw [if_neg c2, if_neg c2]; rfl
theorem pcN_r (v w : Nat) : pcN v w = 0 ∨ pcN v w = 1 ∨ pcN v w = 100 := by
  unfold pcN
  split
  · exact Or.inl rfl
  · split
    · exact Or.inr (Or.inr rfl)
    · exact Or.inr (Or.inl rfl)
theorem r_cost {N v w : Nat} (hN : 10 ≤ N) (hv0 : 1 ≤ v) (hv : v ≤ 999999) (hw0 : 1 ≤ w) (hw : w ≤ 999999) : X11_cost N (nI v) (nI w) = some (if pcN v w = 100 then -1 else nI (pcN v w)) := by
  unfold X11_cost pcN
  rw [r_turn hN hv hw0 hw, r_figu hN hv hw hw0, t10, t10]
  simp only [Option.bind_some]
  by_cases c : v = w
  · rw [if_pos (by rw [c]), if_pos c]; rfl
  · rw [if_neg (by rw [nI_eq (by omega) (by omega)]; exact c), if_neg c]
    by_cases c1 : isTn v (nI w) (nd v - 1) = true
    · have hk : kb v w = 0 := by unfold kb; rw [if_pos c1]
      rw [if_neg (fun q => (b32_0 _).mp q c1), hk]; rfl
    · rw [if_pos ((b32_0 _).mpr c1)]
      by_cases c2 : fg v w = true
      · have hk : kb v w = 1 := by unfold kb; rw [if_neg c1, if_pos c2]
        rw [if_neg (fun q => (b32_0 _).mp q c2), hk]; rfl
      · rw [if_pos ((b32_0 _).mpr c2)]
        by_cases c3 : 10 * v = w
        · have hk : kb v w = 2 := by unfold kb; rw [if_neg c1, if_neg c2, if_pos (Or.inl c3)]
          rw [if_pos (by rw [c3]), hk]; rfl
        · rw [if_neg (by rw [nI_eq (by omega) (by omega)]; exact c3)]
          by_cases c4 : 10 * w = v
          · have hk : kb v w = 2 := by unfold kb; rw [if_neg c1, if_neg c2, if_pos (Or.inr c4)]
            rw [if_pos (by rw [c4]), hk]; rfl
          · have hk : kb v w = -1 := by unfold kb; rw [if_neg c1, if_neg c2, if_neg (fun z => z.elim c3 c4)]
            rw [if_neg (by rw [nI_eq (by omega) (by omega)]; exact c4), hk]; rfl
theorem i13 (e l : Nat) : nI e * (13 : Int32) + nI l = nI (13 * e + l) := by
  show nI e * nI 13 + nI l = _
  rw [pk_mul, nI_add, Nat.mul_comm]
theorem i13' (e l : Nat) : (13 : Int32) * nI e + nI l = nI (13 * e + l) := by
  show nI 13 * nI e + nI l = _
  rw [pk_mul, nI_add]
theorem X6_set_40_eq {S : aSt} {i : Nat} {v : Int32} (h : i < 169) : X6_set_40 (nI i) v S = aA S 40 (upd (S.2.2 40) i v) := by
  unfold X6_set_40
  rw [if_neg (nI_pos (by omega)), if_neg (by exact iNLE 169 i h), nI_clamp (by omega)]
theorem X6_set_41_eq {S : aSt} {i : Nat} {v : Int32} (h : i < 169) : X6_set_41 (nI i) v S = aA S 41 (upd (S.2.2 41) i v) := by
  unfold X6_set_41
  rw [if_neg (nI_pos (by omega)), if_neg (by exact iNLE 169 i h), nI_clamp (by omega)]
theorem X6_at_41_eq {S : aSt} {i : Nat} (h : i < 169) : X6_at_41 (nI i) S = S.2.2 41 i := by
  unfold X6_at_41
  rw [if_neg (nI_pos (by omega)), if_neg (by exact iNLE 169 i h), nI_clamp (by omega)]
theorem X6_at_39_eq {S : aSt} {i : Nat} (h : i < 12) : X6_at_39 (nI i) S = S.2.2 39 i := by
  unfold X6_at_39
  rw [if_neg (nI_pos (by omega)), if_neg (by exact iNLE 12 i h), nI_clamp (by omega)]
theorem X4_costFrom_eq {S : aSt} {e l : Nat} (h : 13 * e + l < 169) : X4_costFrom_38 (nI e) (nI l) S = S.2.2 40 (13 * e + l) := by
  unfold X4_costFrom_38 X6_at_40
  simp only [aLet]
  rw [i13, if_neg (nI_pos (by omega)), if_neg (by exact iNLE 169 (13 * e + l) h), nI_clamp (by omega)]
theorem J9_min_eq {a b : Nat} (ha : a < 2 ^ 31) (hb : b < 2 ^ 31) : J9_min_7cf53 (nI a) (nI b) = nI (min a b) := by
  unfold J9_min_7cf53
  by_cases c : b < a
  · rw [if_pos (by exact iLT b a c), Nat.min_eq_right (by omega)]
  · rw [if_neg (by exact iNLT b a (by omega)), Nat.min_eq_left (by omega)]
def dn (k : Nat) : Int32 := nI k + (-1 : Int32)
theorem dn_0 : dn 0 < 0 := by decide
theorem dn_s (k : Nat) : dn (k + 1) = nI k := pk_m1 k
/-- rows of costs, from one place on -/
def cst (A : Nat → Int32) (pr : Nat → Nat → Nat) (n m e k : Nat) : Prop := ∀ e' l, e' ≤ n → l ≤ m → (e < e' ∨ (e' = e ∧ k ≤ l)) → A (13 * e' + l) = nI (cC pr n m (n - e') (m - l))
def prs (A : Nat → Int32) (pr : Nat → Nat → Nat) (n m e k : Nat) : Prop := ∀ e' l, e' < n → l < m → (e < e' ∨ (e' = e ∧ k ≤ l)) → A (13 * e' + l) = nI (pr e' l)
theorem cst_upd {A : Nat → Int32} {pr : Nat → Nat → Nat} {n m e k V : Nat} (h : cst A pr n m e (k + 1)) (hk : k ≤ 12) (hm : m ≤ 12) (hV : V = cC pr n m (n - e) (m - k)) : cst (upd A (13 * e + k) (nI V)) pr n m e k := by
  intro e' l he' hl hc
  rw [gU]
  by_cases c : 13 * e' + l = 13 * e + k
  · have h1 : e' = e := by omega
    have h2 : l = k := by omega
    rw [if_pos c, hV, h1, h2]
  · rw [if_neg c]; exact h e' l he' hl (by omega)
theorem prs_upd {A : Nat → Int32} {pr : Nat → Nat → Nat} {n m e k V : Nat} (h : prs A pr n m e (k + 1)) (hk : k ≤ 12) (hm : m ≤ 12) (hV : V = pr e k) : prs (upd A (13 * e + k) (nI V)) pr n m e k := by
  intro e' l he' hl hc
  rw [gU]
  by_cases c : 13 * e' + l = 13 * e + k
  · have h1 : e' = e := by omega
    have h2 : l = k := by omega
    rw [if_pos c, hV, h1, h2]
  · rw [if_neg c]; exact h e' l he' hl (by omega)
def sOk (s : Nat → Nat) (n : Nat) : Prop := ∀ e, e < n → 1 ≤ s e ∧ s e ≤ 999999
def mtC (S : aSt) (s o : Nat → Nat) (n m : Nat) : Prop := S.1 38 0 = nI m ∧ (∀ e, e < n → S.2.2 9 (5 * e + 1) = nI (s e)) ∧ ∀ l, l < m → S.2.2 39 l = nI (o l)
def mtR (S : aSt) (s o : Nat → Nat) (n m : Nat) : Prop := S.1 42 14 = nI m ∧ (∀ e, e < n → S.2.2 45 (5 * e + 1) = nI (s e)) ∧ ∀ l, l < m → S.2.2 49 l = nI (o l)
theorem mtC.A {S : aSt} {s o : Nat → Nat} {n m k : Nat} {f : Nat → Int32} (h : mtC S s o n m) (hk : k ≠ 9 ∧ k ≠ 39) : mtC (aA S k f) s o n m := by
  unfold mtC
  rw [gAi, gA, if_neg (fun z => hk.1 z.symm), gA, if_neg (fun z => hk.2 z.symm)]
  exact h
theorem mtR.A {S : aSt} {s o : Nat → Nat} {n m k : Nat} {f : Nat → Int32} (h : mtR S s o n m) (hk : k ≠ 45 ∧ k ≠ 49) : mtR (aA S k f) s o n m := by
  unfold mtR
  rw [gAi, gA, if_neg (fun z => hk.1 z.symm), gA, if_neg (fun z => hk.2 z.symm)]
  exact h
def prf (s o : Nat → Nat) (e l : Nat) : Nat := pcN (s e) (o l)
theorem cC_rec {pr : Nat → Nat → Nat} {n m e l : Nat} (he : e < n) (hl : l < m) : cC pr n m (n - e) (m - l) = min (pr e l + cC pr n m (n - (e + 1)) (m - (l + 1))) (1 + min (cC pr n m (n - (e + 1)) (m - l)) (cC pr n m (n - e) (m - (l + 1)))) := by
  have e1 : n - e = (n - (e + 1)) + 1 := by omega
  have e2 : m - l = (m - (l + 1)) + 1 := by omega
  rw [e1, e2, cC_s, show n - (n - (e + 1) + 1) = e by omega, show m - (m - (l + 1) + 1) = l by omega]
theorem c_put {N e k V : Nat} {v1 : Int32} {S : aSt} {rec2 : Int32 → Int32 → aSt → Option aSt} {rec11 : Int32 → Int32 → Int32 → aSt → Option aSt} (h : 13 * e + k < 169) : X4_findLeastCosts_38_b118 N rec2 rec11 v1 (nI e) (nI k) (nI V) S = rec11 v1 (nI e) (dn k) (aA S 40 (upd (S.2.2 40) (13 * e + k) (nI V))) := by
  unfold X4_findLeastCosts_38_b118 dn
  simp only [aLet]
  rw [i13, X6_set_40_eq h]
theorem c_stepA {N n m e k : Nat} {s o : Nat → Nat} {S : aSt} {rec2 : Int32 → Int32 → aSt → Option aSt} {rec11 : Int32 → Int32 → Int32 → aSt → Option aSt} (hn : n ≤ 12) (hm : m ≤ 12) (he : e ≤ n) (hk : k ≤ m) (hM : S.1 38 0 = nI m) (h : e = n ∨ k = m) : X4_findLeastCosts_38_b11 N rec2 rec11 (nI n) (nI e) (nI k) S = X4_findLeastCosts_38_b118 N rec2 rec11 (nI n) (nI e) (nI k) (nI (cC (prf s o) n m (n - e) (m - k))) S := by
  have hsub : (1 : Int32) * (((nI n - nI e) + nI m) - nI k) = nI (n - e + m - k) := by
    rw [pk_sub he, nI_add, pk_sub (by omega)]
    show nI 1 * _ = _
    rw [pk_mul, Nat.one_mul]
  have hv : cC (prf s o) n m (n - e) (m - k) = n - e + m - k := by
    rcases h with h | h
    · rw [show n - e = 0 by omega, Nat.zero_add]; rfl
    · rw [show m - k = 0 by omega, cC_a0]; omega
  unfold X4_findLeastCosts_38_b11
  rw [if_neg (nI_pos (by omega)), hM, hsub, hv]
  by_cases c1 : n ≤ e
  · rw [if_pos (by exact iLE n e c1)]
  · rw [if_neg (by exact iNLE n e (by omega)), if_pos (by exact iLE m k (by omega))]
theorem c_stepB {N n m e k : Nat} {s o : Nat → Nat} {S : aSt} {rec2 : Int32 → Int32 → aSt → Option aSt} {rec11 : Int32 → Int32 → Int32 → aSt → Option aSt} (hN : 5000 ≤ N) (hn : n ≤ 12) (hm : m ≤ 12) (he : e < n) (hk : k < m) (hs : sOk s n) (ho : sOk o m) (hM : mtC S s o n m) (hA : cst (S.2.2 40) (prf s o) n m e (k + 1)) : X4_findLeastCosts_38_b11 N rec2 rec11 (nI n) (nI e) (nI k) S = X4_findLeastCosts_38_b118 N rec2 rec11 (nI n) (nI e) (nI k) (nI (cC (prf s o) n m (n - e) (m - k))) (aA S 41 (upd (S.2.2 41) (13 * e + k) (nI (pcN (s e) (o k))))) := by
  have hP1 : X2_told_8 (nI e) (1 : Int32) S = S.2.2 9 (5 * e + 1) := X2_told_eq (w := 1) (by omega)
  have q1 := hs e (by omega)
  have q2 := ho k (by omega)
  have l1 := (cC_le (pr := prf s o) (n := n) (m := m) (n - (e + 1)) (m - (k + 1))).1
  have l2 := (cC_le (pr := prf s o) (n := n) (m := m) (n - (e + 1)) (m - k)).1
  have l3 := (cC_le (pr := prf s o) (n := n) (m := m) (n - e) (m - (k + 1))).1
  have l4 := pcN_r (s e) (o k)
  have a1 := hA (e + 1) (k + 1) (by omega) (by omega) (by omega)
  have a2 := hA (e + 1) k (by omega) (by omega) (by omega)
  have a3 := hA e (k + 1) (by omega) (by omega) (by omega)
  have hv := cC_rec (pr := prf s o) he hk
  have hp : prf s o e k = pcN (s e) (o k) := rfl
  rw [hp] at hv
  rw [hv]
  unfold X4_findLeastCosts_38_b11
  simp only [aLet]
  rw [if_neg (nI_pos (by omega)), hM.1, if_neg (by exact iNLE n e he), if_neg (by exact iNLE m k hk), hP1, X6_at_39_eq (by omega), hM.2.1 e he, hM.2.2 k hk, c_pair (by omega) q1.1 q1.2 q2.1 q2.2]
  simp only [Option.bind_some]
  rw [i13, X6_set_41_eq (by omega), nI_1, nI_1, X4_costFrom_eq (by omega), X4_costFrom_eq (by omega), X4_costFrom_eq (by omega), gA, if_neg (by decide), a1, a2, a3]
  generalize cC (prf s o) n m (n - (e + 1)) (m - (k + 1)) = x1 at l1 ⊢
  generalize cC (prf s o) n m (n - (e + 1)) (m - k) = x2 at l2 ⊢
  generalize cC (prf s o) n m (n - e) (m - (k + 1)) = x3 at l3 ⊢
  generalize pcN (s e) (o k) = x4 at l4 ⊢
  have b1 : J9_min_7cf53 (nI x2) (nI x3) = nI (min x2 x3) := J9_min_eq (by omega) (by omega)
  have b2 : min x2 x3 ≤ x2 := Nat.min_le_left _ _
  have b3 : (1 : Int32) + nI (min x2 x3) = nI (1 + min x2 x3) := nI_add 1 _
  have b4 : J9_min_7cf53 (nI (x4 + x1)) (nI (1 + min x2 x3)) = nI (min (x4 + x1) (1 + min x2 x3)) := J9_min_eq (by omega) (by omega)
  rw [b1, b3, nI_add, b4]
theorem c_row {N n m e : Nat} {s o : Nat → Nat} {rec2 : Int32 → Int32 → aSt → Option aSt} (hN : 5000 ≤ N) (hn : n ≤ 12) (hm : m ≤ 12) (he : e ≤ n) (hs : sOk s n) (ho : sOk o m) : ∀ (k f : Nat) (S : aSt), k ≤ m + 1 → k < f → mtC S s o n m → cst (S.2.2 40) (prf s o) n m e k → prs (S.2.2 41) (prf s o) n m e k → ∃ T, X4_findLeastCosts_38_l11 N rec2 f (nI n) (nI e) (dn k) S = rec2 (nI n) (dn e) T ∧ mtC T s o n m ∧ cst (T.2.2 40) (prf s o) n m e 0 ∧ prs (T.2.2 41) (prf s o) n m e 0 := by
  intro k
  induction k with
  | zero =>
    intro f S hk hf hM hA hB
    obtain ⟨f, rfl⟩ : ∃ q, f = q + 1 := ⟨f - 1, by omega⟩
    refine ⟨S, ?_, hM, hA, hB⟩
    show X4_findLeastCosts_38_b11 N rec2 (X4_findLeastCosts_38_l11 N rec2 f) _ _ _ _ = _
    unfold X4_findLeastCosts_38_b11 X4_findLeastCosts_38_b139
    rw [if_pos dn_0, dn]
  | succ k ih =>
    intro f S hk hf hM hA hB
    obtain ⟨f, rfl⟩ : ∃ q, f = q + 1 := ⟨f - 1, by omega⟩
    have st : X4_findLeastCosts_38_l11 N rec2 (f + 1) (nI n) (nI e) (dn (k + 1)) S = X4_findLeastCosts_38_b11 N rec2 (X4_findLeastCosts_38_l11 N rec2 f) (nI n) (nI e) (nI k) S := by
      rw [dn_s]; rfl
    rw [st]
    by_cases c1 : e = n ∨ k = m
    · rw [c_stepA (s := s) (o := o) hn hm he (by omega) hM.1 c1, c_put (by omega)]
      refine ih f _ (by omega) (by omega) (hM.A (by decide)) ?_ ?_
      · rw [gA, if_pos rfl]
        exact cst_upd hA (by omega) hm rfl
      · rw [gA, if_neg (by decide)]
        intro e' l he' hl hc
        exact hB e' l he' hl (by omega)
    · rw [c_stepB hN hn hm (by omega) (by omega) hs ho hM hA, c_put (by omega)]
      have hM1 : mtC (aA S 41 (upd (S.2.2 41) (13 * e + k) (nI (pcN (s e) (o k))))) s o n m := hM.A (by decide)
      have hA1 : cst ((aA S 41 (upd (S.2.2 41) (13 * e + k) (nI (pcN (s e) (o k))))).2.2 40) (prf s o) n m e (k + 1) := by
        rw [gA, if_neg (by decide)]; exact hA
      have hB1 : prs ((aA S 41 (upd (S.2.2 41) (13 * e + k) (nI (pcN (s e) (o k))))).2.2 41) (prf s o) n m e k := by
        rw [gA, if_pos rfl]; exact prs_upd hB (by omega) hm rfl
      generalize aA S 41 (upd (S.2.2 41) (13 * e + k) (nI (pcN (s e) (o k)))) = S1 at hM1 hA1 hB1 ⊢
      refine ih f _ (by omega) (by omega) (hM1.A (by decide)) ?_ ?_
      · rw [gA, if_pos rfl]
        exact cst_upd hA1 (by omega) hm rfl
      · rw [gA, if_neg (by decide)]
        exact hB1
theorem c_costs_l {N n m : Nat} {s o : Nat → Nat} (hN : 5000 ≤ N) (hn : n ≤ 12) (hm : m ≤ 12) (hs : sOk s n) (ho : sOk o m) : ∀ (e f : Nat) (S : aSt), e ≤ n + 1 → e < f → mtC S s o n m → cst (S.2.2 40) (prf s o) n m e 0 → prs (S.2.2 41) (prf s o) n m e 0 → ∃ T, X4_findLeastCosts_38_l2 N f (nI n) (dn e) S = some T ∧ mtC T s o n m ∧ cst (T.2.2 40) (prf s o) n m 0 0 ∧ prs (T.2.2 41) (prf s o) n m 0 0 := by
  intro e
  induction e with
  | zero =>
    intro f S he hf hM hA hB
    obtain ⟨f, rfl⟩ : ∃ q, f = q + 1 := ⟨f - 1, by omega⟩
    refine ⟨S, ?_, hM, hA, hB⟩
    show X4_findLeastCosts_38_b2 N (X4_findLeastCosts_38_l2 N f) _ _ _ = _
    unfold X4_findLeastCosts_38_b2
    rw [if_pos dn_0]
  | succ e ih =>
    intro f S he hf hM hA hB
    obtain ⟨f, rfl⟩ : ∃ q, f = q + 1 := ⟨f - 1, by omega⟩
    show ∃ T, X4_findLeastCosts_38_b2 N (X4_findLeastCosts_38_l2 N f) _ _ _ = _ ∧ _
    unfold X4_findLeastCosts_38_b2
    obtain ⟨T, t1, t2, t3, t4⟩ := c_row (rec2 := X4_findLeastCosts_38_l2 N f) hN hn hm (show e ≤ n by omega) hs ho (m + 1) N S (Nat.le_refl _) (by omega) hM (fun e' l he' hl hc => hA e' l he' hl (by omega)) (fun e' l he' hl hc => hB e' l he' hl (by omega))
    obtain ⟨U, u1, u2⟩ := ih f T (by omega) (by omega) t2 t3 t4
    refine ⟨U, ?_, u2⟩
    rw [dn_s, if_neg (nI_pos (by omega)), hM.1, ← dn_s m, t1, u1]
theorem c_costs {N n m : Nat} {s o : Nat → Nat} {S : aSt} (hN : 5000 ≤ N) (hn : n ≤ 12) (hm : m ≤ 12) (hs : sOk s n) (ho : sOk o m) (hM : mtC S s o n m) : ∃ T, X4_findLeastCosts_38 N (nI n) S = some T ∧ mtC T s o n m ∧ cst (T.2.2 40) (prf s o) n m 0 0 ∧ prs (T.2.2 41) (prf s o) n m 0 0 := by
  have := c_costs_l hN hn hm hs ho (n + 1) N S (Nat.le_refl _) (by omega) hM (fun e' l he' hl hc => by omega) (fun e' l he' hl hc => by omega)
  rw [dn_s] at this
  exact this
/-! match: the reference's costs -/
theorem r_with {N n m e fr l : Nat} {s o : Nat → Nat} {S : aSt} (hN : 5000 ≤ N) (hn : n ≤ 12) (hm : m ≤ 12) (he : e < n) (hs : sOk s n) (ho : sOk o m) (hfr : fr ≤ l) (hl : l < m) (hM : mtR S s o n m) (hA : cst (S.2.2 58) (prf s o) n m (e + 1) 0) : X11_costWith_42 N (nI e) (nI fr) (nI l) S = some (nI (cnd (cC (prf s o) n m (n - (e + 1))) (fun b => prf s o e (m - (b + 1))) (m - fr) (m - (l + 1)))) := by
  unfold X11_costWith_42
  have q1 := hs e (by omega)
  have q2 := ho l (by omega)
  have ei : (13 : Int32) * nI (e + 1) + nI l + (1 : Int32) = nI (13 * (e + 1) + (l + 1)) := by
    rw [i13', nI_1]
    rfl
  rw [m_50, nI_1, if_pos (m_ix (show 5 * e + 1 < 150 by omega) (by decide)), if_pos (m_ix (show l < 12 by omega) (by decide)), nI_clamp (by omega), nI_clamp (by omega), hM.2.1 e he, hM.2.2 l hl, r_cost (by omega) q1.1 q1.2 q2.1 q2.2]
  simp only [Option.bind_some]
  rw [nI_1, ei, if_pos (m_ix (show 13 * (e + 1) + (l + 1) < 169 by omega) (by decide)), nI_clamp (by omega), hA (e + 1) (l + 1) (by omega) (by omega) (by omega), pk_sub hfr]
  have hv := cnd_v (F := cC (prf s o) n m (n - (e + 1))) (q := fun b => prf s o e (m - (b + 1))) (b := m - fr) (i := m - (l + 1)) (p := pcN (s e) (o l)) (d := l - fr) (by show prf s o e (m - (m - (l + 1) + 1)) = _; rw [show m - (m - (l + 1) + 1) = l by omega]; rfl) (by omega)
  rw [hv]
  by_cases c : pcN (s e) (o l) = 100
  · rw [if_pos c, if_pos rfl, if_pos c]; rfl
  · have := pcN_r (s e) (o l)
    rw [if_neg c, if_neg (nI_m1 (by omega)), if_neg c, nI_add, nI_add]
theorem r_least {N n m e fr : Nat} {s o : Nat → Nat} {S : aSt} {rec2 : Int32 → Int32 → aSt → Option aSt} {rec11 : Int32 → Int32 → Int32 → aSt → Option aSt} (hN : 5000 ≤ N) (hn : n ≤ 12) (hm : m ≤ 12) (he : e < n) (hs : sOk s n) (ho : sOk o m) (hfr : fr ≤ m) (hM : mtR S s o n m) (hA : cst (S.2.2 58) (prf s o) n m (e + 1) 0) : ∀ (r k f : Nat), fr + k + r = m → r < f → X11_layRest_42_l49 N rec2 rec11 f (nI n) (nI e) (nI fr) (nI (lst (cC (prf s o) n m (n - (e + 1))) (fun b => prf s o e (m - (b + 1))) (m - fr) k)) (nI (fr + k)) S = X11_layRest_42_b97 N rec2 rec11 (nI n) (nI e) (nI fr) (nI (lst (cC (prf s o) n m (n - (e + 1))) (fun b => prf s o e (m - (b + 1))) (m - fr) (m - fr))) S := by
  intro r
  induction r with
  | zero =>
    intro k f hk hf
    obtain ⟨f, rfl⟩ : ∃ q, f = q + 1 := ⟨f - 1, by omega⟩
    show X11_layRest_42_b49 N rec2 rec11 (X11_layRest_42_l49 N rec2 rec11 f) _ _ _ _ _ _ = _
    unfold X11_layRest_42_b49
    rw [hM.1, if_pos (by exact iLE m (fr + k) (by omega)), show m - fr = k by omega]
  | succ r ih =>
    intro k f hk hf
    obtain ⟨f, rfl⟩ : ∃ q, f = q + 1 := ⟨f - 1, by omega⟩
    show X11_layRest_42_b49 N rec2 rec11 (X11_layRest_42_l49 N rec2 rec11 f) _ _ _ _ _ _ = _
    unfold X11_layRest_42_b49 X11_layRest_42_b89
    rw [hM.1, if_neg (by exact iNLE m (fr + k) (by omega)), if_neg (by exact iNLE n e he), r_with hN hn hm he hs ho (show fr ≤ fr + k by omega) (show fr + k < m by omega) hM hA]
    simp only [Option.bind_some]
    have hi := ih (k + 1) f (by omega) (by omega)
    have l1 := (cC_le (pr := prf s o) (n := n) (m := m) (n - (e + 1)) (m - fr)).1
    have l2 := lst_le (cC (prf s o) n m (n - (e + 1))) (fun b => prf s o e (m - (b + 1))) (m - fr) k
    have l3 : cnd (cC (prf s o) n m (n - (e + 1))) (fun b => prf s o e (m - (b + 1))) (m - fr) (m - (fr + k + 1)) < 2 ^ 31 := by
      have h1 := (cC_le (pr := prf s o) (n := n) (m := m) (n - (e + 1)) (m - (fr + k + 1))).1
      have h2 := pcN_r (s e) (o (m - (m - (fr + k + 1) + 1)))
      have h3 := cnd_v (F := cC (prf s o) n m (n - (e + 1))) (q := fun b => prf s o e (m - (b + 1))) (b := m - fr) (i := m - (fr + k + 1)) (p := pcN (s e) (o (m - (m - (fr + k + 1) + 1)))) rfl rfl
      rw [h3]
      split <;> omega
    rw [lst, show m - fr - 1 - k = m - (fr + k + 1) by omega] at hi
    rw [nI_1]
    generalize lst (cC (prf s o) n m (n - (e + 1))) (fun b => prf s o e (m - (b + 1))) (m - fr) k = x at hi l2 ⊢
    generalize cnd (cC (prf s o) n m (n - (e + 1))) (fun b => prf s o e (m - (b + 1))) (m - fr) (m - (fr + k + 1)) = y at hi l3 ⊢
    by_cases c : x ≤ y
    · rw [if_pos (by exact iLE x y c)]
      rw [Nat.min_eq_left c] at hi
      exact hi
    · rw [if_neg (by exact iNLE x y (by omega))]
      rw [Nat.min_eq_right (by omega)] at hi
      exact hi
theorem r_row {N n m e : Nat} {s o : Nat → Nat} {rec2 : Int32 → Int32 → aSt → Option aSt} (hN : 5000 ≤ N) (hn : n ≤ 12) (hm : m ≤ 12) (he : e ≤ n) (hs : sOk s n) (ho : sOk o m) : ∀ (k f : Nat) (S : aSt), k ≤ m + 1 → k < f → mtR S s o n m → cst (S.2.2 58) (prf s o) n m e k → ∃ T, X11_layRest_42_l11 N rec2 f (nI n) (nI e) (dn k) S = rec2 (nI n) (dn e) T ∧ mtR T s o n m ∧ cst (T.2.2 58) (prf s o) n m e 0 := by
  intro k
  induction k with
  | zero =>
    intro f S hk hf hM hA
    obtain ⟨f, rfl⟩ : ∃ q, f = q + 1 := ⟨f - 1, by omega⟩
    refine ⟨S, ?_, hM, hA⟩
    show X11_layRest_42_b11 N rec2 (X11_layRest_42_l11 N rec2 f) _ _ _ _ = _
    unfold X11_layRest_42_b11 X11_layRest_42_b116
    rw [if_pos dn_0]
    rfl
  | succ k ih =>
    intro f S hk hf hM hA
    obtain ⟨f, rfl⟩ : ∃ q, f = q + 1 := ⟨f - 1, by omega⟩
    show ∃ T, X11_layRest_42_b11 N rec2 (X11_layRest_42_l11 N rec2 f) _ _ _ _ = _ ∧ _
    unfold X11_layRest_42_b11 X11_layRest_42_b44
    have h42 : S.1 42 14 = nI m := hM.1
    have put : ∀ V : Nat, V = cC (prf s o) n m (n - e) (m - k) → ∃ T, X11_layRest_42_b97 N rec2 (X11_layRest_42_l11 N rec2 f) (nI n) (nI e) (nI k) (nI V) S = rec2 (nI n) (dn e) T ∧ mtR T s o n m ∧ cst (T.2.2 58) (prf s o) n m e 0 := by
      intro V hV
      unfold X11_layRest_42_b97
      rw [i13', if_pos (m_ix (show 13 * e + k < 169 by omega) (by decide)), nI_clamp (by omega)]
      exact ih f (aA S 58 (upd (S.2.2 58) (13 * e + k) (nI V))) (by omega) (by omega) (hM.A (by decide)) (by rw [gA, if_pos rfl]; exact cst_upd hA (by omega) hm hV)
    rw [dn_s, if_neg (nI_pos (by omega))]
    by_cases c1 : e = n
    · rw [if_pos (by rw [c1]), h42, pk_sub (show k ≤ m by omega)]
      obtain ⟨g, rfl⟩ : ∃ q, N = q + 1 := ⟨N - 1, by omega⟩
      have h49 : X11_layRest_42_l49 (g + 1) rec2 (X11_layRest_42_l11 (g + 1) rec2 f) (g + 1) (nI n) (nI e) (nI k) (nI (m - k)) (nI k) S = X11_layRest_42_b97 (g + 1) rec2 (X11_layRest_42_l11 (g + 1) rec2 f) (nI n) (nI e) (nI k) (nI (m - k)) S := by
        show X11_layRest_42_b49 (g + 1) rec2 (X11_layRest_42_l11 (g + 1) rec2 f) (X11_layRest_42_l49 (g + 1) rec2 (X11_layRest_42_l11 (g + 1) rec2 f) g) _ _ _ _ _ _ = _
        unfold X11_layRest_42_b49
        rw [h42]
        by_cases c2 : m ≤ k
        · rw [if_pos (by exact iLE m k c2)]
        · rw [if_neg (by exact iNLE m k (by omega)), if_pos (by exact iLE n e (by omega))]
      rw [h49]
      refine put (m - k) ?_
      rw [show n - e = 0 by omega]
      rfl
    · have c1' : e < n := by omega
      rw [if_neg (by rw [nI_eq (by omega) (by omega)]; exact c1), nI_1, i13', if_pos (m_ix (show 13 * (e + 1) + k < 169 by omega) (by decide)), nI_clamp (by omega), hA (e + 1) k (by omega) (by omega) (by omega), show (1 : Int32) = nI 1 from rfl, nI_add]
      have hl := r_least (S := S) (rec2 := rec2) (rec11 := X11_layRest_42_l11 N rec2 f) hN hn hm c1' hs ho (show k ≤ m by omega) hM (fun e' l he' hl hc => hA e' l he' hl (by omega)) (m - k) 0 N (by omega) (by omega)
      rw [lst] at hl
      simp only [Nat.add_zero] at hl
      rw [hl]
      refine put _ ?_
      have hC : cC (prf s o) n m (n - e) = cI (cC (prf s o) n m (n - (e + 1))) (fun b => prf s o e (m - (b + 1))) (n - (e + 1)) := by
        rw [show n - e = (n - (e + 1)) + 1 by omega]
        show cI _ _ _ = _
        rw [show n - (n - (e + 1) + 1) = e by omega]
      rw [hC]
      refine lst_C (cC_a0 _) (m - k) (fun b' hb => ⟨(cC_le _ b').2, ?_⟩)
      have := (cC_le (pr := prf s o) (n := n) (m := m) (n - (e + 1)) (b' + 1)).1
      omega
theorem r_costs_l {N n m : Nat} {s o : Nat → Nat} (hN : 5000 ≤ N) (hn : n ≤ 12) (hm : m ≤ 12) (hs : sOk s n) (ho : sOk o m) : ∀ (e f : Nat) (S : aSt), e ≤ n + 1 → e < f → mtR S s o n m → cst (S.2.2 58) (prf s o) n m e 0 → ∃ T, X11_layRest_42_l2 N f (nI n) (dn e) S = some T ∧ mtR T s o n m ∧ cst (T.2.2 58) (prf s o) n m 0 0 := by
  intro e
  induction e with
  | zero =>
    intro f S he hf hM hA
    obtain ⟨f, rfl⟩ : ∃ q, f = q + 1 := ⟨f - 1, by omega⟩
    refine ⟨S, ?_, hM, hA⟩
    show X11_layRest_42_b2 N (X11_layRest_42_l2 N f) _ _ _ = _
    unfold X11_layRest_42_b2
    rw [if_pos dn_0]
  | succ e ih =>
    intro f S he hf hM hA
    obtain ⟨f, rfl⟩ : ∃ q, f = q + 1 := ⟨f - 1, by omega⟩
    show ∃ T, X11_layRest_42_b2 N (X11_layRest_42_l2 N f) _ _ _ = _ ∧ _
    unfold X11_layRest_42_b2
    obtain ⟨T, t1, t2, t3⟩ := r_row (rec2 := X11_layRest_42_l2 N f) hN hn hm (show e ≤ n by omega) hs ho (m + 1) N S (Nat.le_refl _) (by omega) hM (fun e' l he' hl hc => hA e' l he' hl (by omega))
    obtain ⟨U, u1, u2⟩ := ih f T (by omega) (by omega) t2 t3
    refine ⟨U, ?_, u2⟩
    rw [dn_s, if_neg (nI_pos (by omega)), hM.1, ← dn_s m, t1, u1]
theorem r_costs {N n m : Nat} {s o : Nat → Nat} {S : aSt} (hN : 5000 ≤ N) (hn : n ≤ 12) (hm : m ≤ 12) (hs : sOk s n) (ho : sOk o m) (hM : mtR S s o n m) : ∃ T, X11_layRest_42 N (nI n) S = some T ∧ mtR T s o n m ∧ cst (T.2.2 58) (prf s o) n m 0 0 := by
  have := r_costs_l hN hn hm hs ho (n + 1) N S (Nat.le_refl _) (by omega) hM (fun e' l he' hl hc => by omega)
  rw [dn_s] at this
  exact this
