/-! a line: its word -/
theorem isW_sC {b : Nat → Int32} {k p e : Nat} (hk : k < 9) (h : isW b k p e = true) : sC (b p) = 1 ∧ p < e := by
  have key : ∀ k, k < 9 → 0 < (wd k).length ∧ sC (nI ((wd k).getD 0 0)) = 1 := by decide +kernel
  obtain ⟨k1, k2⟩ := key k hk
  unfold isW at h
  rw [Bool.and_eq_true, decide_eq_true_eq] at h
  have h2 := alw_all _ _ h.2 0 (Nat.le_refl _) (by omega)
  rw [decide_eq_true_eq] at h2
  have h3 : nI ((wd k).getD 0 0) = b p := h2
  exact ⟨by rw [← h3]; exact k2, by omega⟩
theorem isW_uniq {b : Nat → Int32} {j k p e : Nat} (hj : j < 9) (hk : k < 9) (h1 : isW b j p e = true) (h2 : isW b k p e = true) : j = k := by
  have key : ∀ j, j < 9 → ∀ k, k < 9 → j ≠ k → (wd j).length = (wd k).length → (List.range (wd j).length).any (fun i => decide ((wd j).getD i 0 ≠ (wd k).getD i 0)) = true := by decide +kernel
  have small : ∀ k, k < 9 → ∀ i, i < 7 → (wd k).getD i 0 < 2 ^ 31 := by decide +kernel
  have len : ∀ k, k < 9 → (wd k).length < 7 := by decide +kernel
  apply Classical.byContradiction
  intro hne
  unfold isW at h1 h2
  rw [Bool.and_eq_true, decide_eq_true_eq] at h1 h2
  have hl : (wd j).length = (wd k).length := h1.1.symm.trans h2.1
  have ha := key j hj k hk hne hl
  rw [List.any_eq_true] at ha
  obtain ⟨i, hi, hd⟩ := ha
  rw [List.mem_range] at hi
  rw [decide_eq_true_eq] at hd
  have a1 := alw_all _ _ h1.2 i (Nat.zero_le _) (by omega)
  have a2 := alw_all _ _ h2.2 i (Nat.zero_le _) (by omega)
  rw [decide_eq_true_eq] at a1 a2
  have hi7 := len j hj
  exact hd ((nI_eq (small j hj i (by omega)) (small k hk i (by omega))).mp (a1.trans a2.symm))
theorem wk_of {b : Nat → Int32} {k p e : Nat} (hk : k < 9) (h : isW b k p e = true) : wk b p e = k := by
  have u : ∀ j, j < 9 → isW b j p e = true → j = k := fun j hj hq => isW_uniq hj hk hq h
  unfold wk
  by_cases c0 : isW b 0 p e = true
  · rw [if_pos c0]; exact u 0 (by decide) c0
  rw [if_neg c0]
  by_cases c1 : isW b 1 p e = true
  · rw [if_pos c1]; exact u 1 (by decide) c1
  rw [if_neg c1]
  by_cases c2 : isW b 2 p e = true
  · rw [if_pos c2]; exact u 2 (by decide) c2
  rw [if_neg c2]
  by_cases c3 : isW b 3 p e = true
  · rw [if_pos c3]; exact u 3 (by decide) c3
  rw [if_neg c3]
  by_cases c4 : isW b 4 p e = true
  · rw [if_pos c4]; exact u 4 (by decide) c4
  rw [if_neg c4]
  by_cases c5 : isW b 5 p e = true
  · rw [if_pos c5]; exact u 5 (by decide) c5
  rw [if_neg c5]
  by_cases c6 : isW b 6 p e = true
  · rw [if_pos c6]; exact u 6 (by decide) c6
  rw [if_neg c6]
  by_cases c7 : isW b 7 p e = true
  · rw [if_pos c7]; exact u 7 (by decide) c7
  rw [if_neg c7]
  by_cases c8 : isW b 8 p e = true
  · rw [if_pos c8]; exact u 8 (by decide) c8
  exfalso
  rcases (show k = 0 ∨ k = 1 ∨ k = 2 ∨ k = 3 ∨ k = 4 ∨ k = 5 ∨ k = 6 ∨ k = 7 ∨ k = 8 by omega) with rfl | rfl | rfl | rfl | rfl | rfl | rfl | rfl | rfl
  · exact c0 h
  · exact c1 h
  · exact c2 h
  · exact c3 h
  · exact c4 h
  · exact c5 h
  · exact c6 h
  · exact c7 h
  · exact c8 h
theorem wk_is {b : Nat → Int32} {p e : Nat} : wk b p e = 9 ∨ isW b (wk b p e) p e = true := by
  unfold wk
  (repeat' split) <;> first | (exact Or.inl rfl) | (right; assumption)
theorem tc_w {b : Nat → Int32} {t p k : Nat} (hk : k < 9) (hp : p ≤ t) : tc b t p = nI (10 + k) ↔ isW b k p (en b t p) = true := by
  have hw := wk_le b p (en b t p)
  constructor
  · intro h
    unfold tc at h
    by_cases c : p < t
    · rw [if_pos c] at h
      by_cases c1 : sC (b p) = 1
      · rw [if_pos c1] at h
        by_cases c9 : wk b p (en b t p) = 9
        · rw [if_pos c9] at h
          exact absurd h (by exact iNE 3 (10 + k) (by omega))
        · rw [if_neg c9, nI_eq (by omega) (by omega)] at h
          have e : wk b p (en b t p) = k := by omega
          rcases wk_is (b := b) (p := p) (e := en b t p) with q | q
          · exact absurd q c9
          · rw [e] at q; exact q
      · rw [if_neg c1] at h
        exfalso
        revert h
        (repeat' split)
        · exact iNE 1 (10 + k) (by omega)
        · exact iNE 2 (10 + k) (by omega)
        · exact iNE 3 (10 + k) (by omega)
    · rw [if_neg c] at h
      exact absurd h (by exact iNE 0 (10 + k) (by omega))
  · intro h
    obtain ⟨h1, h2⟩ := isW_sC hk h
    have c : p < t := by
      apply Classical.byContradiction
      intro c
      unfold en at h2
      rw [if_neg c] at h2
      omega
    unfold tc
    rw [if_pos c, if_pos h1, wk_of hk h, if_neg (by omega)]
theorem r_isWk {N t p k : Nat} {b : Nat → Int32} {T : aSt} (hk : k < 9) (hN : 300 ≤ N) (ht : t ≤ 200) (hp : p ≤ t) (h : tkR T b t p) : X11_isWord_42 N (wcd k) (nI (wd k).length) T = some (b32 (isW b k p (en b t p))) := by
  have he := en_le (b := b) hp
  exact r_isW hk (by omega) he.1 (by omega) h.2.1 h.2.2.1 (fun i hi => h.2.2.2.2 i (by omega))
theorem r_cascade {N t p : Nat} {b : Nat → Int32} {T : aSt} (hN : 300 ≤ N) (ht : t ≤ 200) (hp : p ≤ t) (h : tkR T b t p) : (∃ w, w < 8 ∧ isW b w p (en b t p) = true ∧ X11_readsLine_42 N T = X11_readsLine_42_b117 N (nI w) T) ∨ ((∀ w, w < 8 → ¬ isW b w p (en b t p) = true) ∧ X11_readsLine_42 N T = X11_readsLine_42_b117 N (-1) T) := by
  have e0 : X11_isWord_42 N (661676 : Int32) (4 : Int32) T = some (b32 (isW b 0 p (en b t p))) := r_isWk (k := 0) (by decide) hN ht hp h
  have e1 : X11_isWord_42 N (21241138 : Int32) (5 : Int32) T = some (b32 (isW b 1 p (en b t p))) := r_isWk (k := 1) (by decide) hN ht hp h
  have e2 : X11_isWord_42 N (145448 : Int32) (4 : Int32) T = some (b32 (isW b 2 p (en b t p))) := r_isWk (k := 2) (by decide) hN ht hp h
  have e3 : X11_isWord_42 N (132274 : Int32) (4 : Int32) T = some (b32 (isW b 3 p (en b t p))) := r_isWk (k := 3) (by decide) hN ht hp h
  have e4 : X11_isWord_42 N (140102957 : Int32) (6 : Int32) T = some (b32 (isW b 4 p (en b t p))) := r_isWk (k := 4) (by decide) hN ht hp h
  have e5 : X11_isWord_42 N (26822691 : Int32) (5 : Int32) T = some (b32 (isW b 5 p (en b t p))) := r_isWk (k := 5) (by decide) hN ht hp h
  have e6 : X11_isWord_42 N (149392563 : Int32) (6 : Int32) T = some (b32 (isW b 6 p (en b t p))) := r_isWk (k := 6) (by decide) hN ht hp h
  have e7 : X11_isWord_42 N (171056 : Int32) (4 : Int32) T = some (b32 (isW b 7 p (en b t p))) := r_isWk (k := 7) (by decide) hN ht hp h
  unfold X11_readsLine_42
  rw [e0, e1, e2, e3, e4, e5, e6, e7]
  simp only [Option.bind_some]
  by_cases c0 : isW b 0 p (en b t p) = true
  · rw [if_neg (fun q => (b32_0 _).mp q c0)]; exact Or.inl ⟨0, by decide, c0, rfl⟩
  rw [if_pos ((b32_0 _).mpr c0)]
  by_cases c1 : isW b 1 p (en b t p) = true
  · rw [if_neg (fun q => (b32_0 _).mp q c1)]; exact Or.inl ⟨1, by decide, c1, rfl⟩
  rw [if_pos ((b32_0 _).mpr c1)]
  by_cases c2 : isW b 2 p (en b t p) = true
  · rw [if_neg (fun q => (b32_0 _).mp q c2)]; exact Or.inl ⟨2, by decide, c2, rfl⟩
  rw [if_pos ((b32_0 _).mpr c2)]
  by_cases c3 : isW b 3 p (en b t p) = true
  · rw [if_neg (fun q => (b32_0 _).mp q c3)]; exact Or.inl ⟨3, by decide, c3, rfl⟩
  rw [if_pos ((b32_0 _).mpr c3)]
  by_cases c4 : isW b 4 p (en b t p) = true
  · rw [if_neg (fun q => (b32_0 _).mp q c4)]; exact Or.inl ⟨4, by decide, c4, rfl⟩
  rw [if_pos ((b32_0 _).mpr c4)]
  by_cases c5 : isW b 5 p (en b t p) = true
  · rw [if_neg (fun q => (b32_0 _).mp q c5)]; exact Or.inl ⟨5, by decide, c5, rfl⟩
  rw [if_pos ((b32_0 _).mpr c5)]
  by_cases c6 : isW b 6 p (en b t p) = true
  · rw [if_neg (fun q => (b32_0 _).mp q c6)]; exact Or.inl ⟨6, by decide, c6, rfl⟩
  rw [if_pos ((b32_0 _).mpr c6)]
  by_cases c7 : isW b 7 p (en b t p) = true
  · rw [if_neg (fun q => (b32_0 _).mp q c7)]; exact Or.inl ⟨7, by decide, c7, rfl⟩
  rw [if_pos ((b32_0 _).mpr c7)]
  refine Or.inr ⟨fun w hw => ?_, rfl⟩
  rcases (show w = 0 ∨ w = 1 ∨ w = 2 ∨ w = 3 ∨ w = 4 ∨ w = 5 ∨ w = 6 ∨ w = 7 by omega) with rfl | rfl | rfl | rfl | rfl | rfl | rfl | rfl
  · exact c0
  · exact c1
  · exact c2
  · exact c3
  · exact c4
  · exact c5
  · exact c6
  · exact c7
/-! a line: its numbers -/
def LRR (b : Nat → Int32) (t M n : Nat) (S0 T0 : aSt) (D : aSt → aSt → Prop) (C R : Option (Int32 × aSt)) : Prop := ∃ k S' T' r, C = some (r, S') ∧ R = some (r, T') ∧ LK b t M n k S' T' ∧ AG n S0 T0 S' T' ∧ (r = 0 ∨ (r = 1 ∧ D S' T'))
def cN (a i lo hi : Int32) (K : aSt → Option (Int32 × aSt)) (S : aSt) : Option (Int32 × aSt) := aLet (X9_takeNumber_1 a i lo hi S) (fun w => if w.1 = (0 : Int32) then some ((0 : Int32), w.2) else K w.2)
def rN (N : Nat) (i lo hi : Int32) (K : aSt → Option (Int32 × aSt)) (T : aSt) : Option (Int32 × aSt) := Option.bind (X11_reads_42 N i lo hi T) (fun w => if w.1 = (0 : Int32) then some ((0 : Int32), w.2) else K w.2)
def fin (S : aSt) : Option (Int32 × aSt) := some (1, S)
theorem cN_1 {a i lo hi : Int32} {K : aSt → Option (Int32 × aSt)} {S S' : aSt} (h : X9_takeNumber_1 a i lo hi S = (1, S')) : cN a i lo hi K S = K S' := by
  unfold cN
  rw [h]
  show (if (1 : Int32) = (0 : Int32) then some ((0 : Int32), S') else K S') = K S'
  exact if_neg n10
theorem cN_0 {a i lo hi : Int32} {K : aSt → Option (Int32 × aSt)} {S S' : aSt} (h : X9_takeNumber_1 a i lo hi S = (0, S')) : cN a i lo hi K S = some (0, S') := by
  unfold cN
  rw [h]
  show (if (0 : Int32) = (0 : Int32) then some ((0 : Int32), S') else K S') = some (0, S')
  exact if_pos rfl
theorem rN_1 {N : Nat} {i lo hi : Int32} {K : aSt → Option (Int32 × aSt)} {T T' : aSt} (h : X11_reads_42 N i lo hi T = some (1, T')) : rN N i lo hi K T = K T' := by
  unfold rN
  rw [h]
  show (if (1 : Int32) = (0 : Int32) then some ((0 : Int32), T') else K T') = K T'
  exact if_neg n10
theorem rN_0 {N : Nat} {i lo hi : Int32} {K : aSt → Option (Int32 × aSt)} {T T' : aSt} (h : X11_reads_42 N i lo hi T = some (0, T')) : rN N i lo hi K T = some (0, T') := by
  unfold rN
  rw [h]
  show (if (0 : Int32) = (0 : Int32) then some ((0 : Int32), T') else K T') = some (0, T')
  exact if_pos rfl
theorem LR_num {N t M k n i : Nat} {b : Nat → Int32} {S T S0 T0 : aSt} {D : aSt → aSt → Prop} {KC KR : aSt → Option (Int32 × aSt)} {lo hi : Nat} (hN : 300 ≤ N) (ht : t ≤ 200) (hn : n < 10) (hi4 : i < 4) (hlo : lo < 2 ^ 31) (hhi : hi < 2 ^ 31) (h : LK b t M n k S T) (hA : AG n S0 T0 S T) (K : ∀ v S' T', lo ≤ v → v ≤ hi → LK b t M n (k + 1) S' T' → AG n S0 T0 S' T' → NM n S' T' i (nI v) → (∀ j w w', j ≠ i → NM2 n S T j w w' → NM2 n S' T' j w w') → LRR b t M n S0 T0 D (KC S') (KR T')) : LRR b t M n S0 T0 D (cN (nI n) (nI i) (nI lo) (nI hi) KC S) (rN N (nI i) (nI lo) (nI hi) KR T) := by
  rcases m_num (lo := nI lo) (hi := nI hi) hN ht h hn hi4 (nI_pos' hlo) with ⟨c, r⟩ | ⟨v, S', T', h1, h2, c, r, l, a, nm, ps⟩
  · rw [cN_0 c, rN_0 r]
    exact ⟨k, S, T, 0, rfl, rfl, h, hA, Or.inl rfl⟩
  · rw [cN_1 c, rN_1 r]
    obtain ⟨x, hx, rfl⟩ := m_nat (Int32.le_trans (nI_pos' hlo) h1)
    rw [nI_leI hlo hx] at h1
    rw [nI_leI hx hhi] at h2
    exact K x S' T' h1 h2 l (hA.tr a) nm ps
def dE (n : Nat) (S T : aSt) : Prop := ∃ a c d p : Nat, (1 ≤ a ∧ a ≤ 999999) ∧ c ≤ 7 ∧ d ≤ 3 ∧ p ≤ 5 ∧ NM n S T 0 (nI a) ∧ NM n S T 1 (nI c) ∧ NM n S T 2 (nI d) ∧ NM n S T 3 (nI p)
def dH (n : Nat) (S T : aSt) : Prop := ∃ a c d : Nat, a ≤ 3 ∧ c ≤ 4 ∧ d ≤ 99 ∧ NM n S T 0 (nI a) ∧ NM n S T 1 (nI c) ∧ NM n S T 2 (nI d)
def dR (n : Nat) (S T : aSt) : Prop := ∃ a c d : Nat, a ≤ 9 ∧ c ≤ 9 ∧ d ≤ 99 ∧ NM n S T 0 (nI a) ∧ NM n S T 1 (nI c) ∧ NM n S T 2 (nI d)
def d1 (n : Nat) (S T : aSt) : Prop := ∃ a : Nat, a ≤ 99 ∧ NM n S T 0 (nI a)
def dP (n : Nat) (S T : aSt) : Prop := ∃ a : Nat, a ≤ 5 ∧ NM n S T 0 (nI a) ∧ ((∃ q : Nat, q ≤ 1 ∧ S.2.2 7 (4 * n + 1) = nI (10 + q) ∧ T.2.2 44 (5 * n + 2) = nI q ∧ ∃ v, NM n S T 2 v) ∨ (S.2.2 7 (4 * n + 1) = nI 18 ∧ T.2.2 44 (5 * n + 2) = nI 2))
def lnD (n w : Nat) (S T : aSt) : Prop := if w ≤ 1 then dE n S T else if w = 2 then dH n S T else if w = 3 then dR n S T else if w ≤ 6 then d1 n S T else dP n S T
theorem l_left {N t M k n : Nat} {b : Nat → Int32} {S T : aSt} (hN : 300 ≤ N) (ht : t ≤ 200) (hn : n < 10) (h : LK b t M n k S T) : LRR b t M n S T (dE n) (cN (nI n) (nI 0) (nI 1) (nI 999999) (cN (nI n) (nI 1) (nI 0) (nI 7) (cN (nI n) (nI 2) (nI 0) (nI 3) (cN (nI n) (nI 3) (nI 0) (nI 5) fin))) S) (rN N (nI 0) (nI 1) (nI 999999) (rN N (nI 1) (nI 0) (nI 7) (rN N (nI 2) (nI 0) (nI 3) (rN N (nI 3) (nI 0) (nI 5) fin))) T) := by
  refine LR_num hN ht hn (by decide) (by decide) (by decide) h AG.rf (fun v0 S1 T1 a0 b0 l1 g1 n0 p1 => ?_)
  refine LR_num hN ht hn (by decide) (by decide) (by decide) l1 g1 (fun v1 S2 T2 a1 b1 l2 g2 n1 p2 => ?_)
  refine LR_num hN ht hn (by decide) (by decide) (by decide) l2 g2 (fun v2 S3 T3 a2 b2 l3 g3 n2 p3 => ?_)
  refine LR_num hN ht hn (by decide) (by decide) (by decide) l3 g3 (fun v3 S4 T4 a3 b3 l4 g4 n3 p4 => ?_)
  exact ⟨_, S4, T4, 1, rfl, rfl, l4, g4, Or.inr ⟨rfl, v0, v1, v2, v3, ⟨a0, b0⟩, b1, b2, b3, p4 _ _ _ (by decide) (p3 _ _ _ (by decide) (p2 _ _ _ (by decide) n0)), p4 _ _ _ (by decide) (p3 _ _ _ (by decide) n1), p4 _ _ _ (by decide) n2, n3⟩⟩
theorem l_hand {N t M k n : Nat} {b : Nat → Int32} {S T : aSt} (hN : 300 ≤ N) (ht : t ≤ 200) (hn : n < 10) (h : LK b t M n k S T) : LRR b t M n S T (dH n) (cN (nI n) (nI 0) (nI 0) (nI 3) (cN (nI n) (nI 1) (nI 0) (nI 4) (cN (nI n) (nI 2) (nI 0) (nI 99) fin)) S) (rN N (nI 0) (nI 0) (nI 3) (rN N (nI 1) (nI 0) (nI 4) (rN N (nI 2) (nI 0) (nI 99) fin)) T) := by
  refine LR_num hN ht hn (by decide) (by decide) (by decide) h AG.rf (fun v0 S1 T1 a0 b0 l1 g1 n0 p1 => ?_)
  refine LR_num hN ht hn (by decide) (by decide) (by decide) l1 g1 (fun v1 S2 T2 a1 b1 l2 g2 n1 p2 => ?_)
  refine LR_num hN ht hn (by decide) (by decide) (by decide) l2 g2 (fun v2 S3 T3 a2 b2 l3 g3 n2 p3 => ?_)
  exact ⟨_, S3, T3, 1, rfl, rfl, l3, g3, Or.inr ⟨rfl, v0, v1, v2, b0, b1, b2, p3 _ _ _ (by decide) (p2 _ _ _ (by decide) n0), p3 _ _ _ (by decide) n1, n2⟩⟩
theorem o_0 (S : aSt) : (if (0 : Int32) = 0 ∨ (0 : Int32) = 1 then some ((0 : Int32), S) else none) = some (0, S) := if_pos (Or.inl rfl)
theorem o_1 (S : aSt) : (if (1 : Int32) = 0 ∨ (1 : Int32) = 1 then some ((1 : Int32), S) else none) = some (1, S) := if_pos (Or.inr rfl)
theorem l_one {N t M k n : Nat} {b : Nat → Int32} {S T : aSt} (hN : 300 ≤ N) (ht : t ≤ 200) (hn : n < 10) (h : LK b t M n k S T) : LRR b t M n S T (d1 n) (aLet (X9_takeNumber_1 (nI n) (0 : Int32) (0 : Int32) (99 : Int32) S) (fun w => if w.1 = 0 ∨ w.1 = 1 then some (w.1, w.2) else none)) (Option.bind (X11_reads_42 N (0 : Int32) (0 : Int32) (99 : Int32) T) (fun w => if w.1 = 0 ∨ w.1 = 1 then some (w.1, w.2) else none)) := by
  rcases m_num (i := 0) (lo := nI 0) (hi := nI 99) hN ht h hn (by decide) (nI_pos' (by decide)) with ⟨c, r⟩ | ⟨v, S', T', h1, h2, c, r, l, a, nm, ps⟩
  · have c' : X9_takeNumber_1 (nI n) (0 : Int32) (0 : Int32) (99 : Int32) S = (0, S) := c
    have r' : X11_reads_42 N (0 : Int32) (0 : Int32) (99 : Int32) T = some (0, T) := r
    rw [c', r']
    exact ⟨k, S, T, 0, o_0 S, o_0 T, h, AG.rf, Or.inl rfl⟩
  · have c' : X9_takeNumber_1 (nI n) (0 : Int32) (0 : Int32) (99 : Int32) S = (1, S') := c
    have r' : X11_reads_42 N (0 : Int32) (0 : Int32) (99 : Int32) T = some (1, T') := r
    rw [c', r']
    obtain ⟨x, hx, rfl⟩ := m_nat (Int32.le_trans (nI_pos' (by decide)) h1)
    rw [nI_leI hx (by decide)] at h2
    exact ⟨_, S', T', 1, o_1 S', o_1 T', l, a, Or.inr ⟨rfl, x, h2, nm⟩⟩
theorem X6_at_7_eq {S : aSt} {i : Nat} (h : i < 40) : X6_at_7 (nI i) S = S.2.2 7 i := by
  unfold X6_at_7
  rw [if_neg (nI_pos (by omega)), if_neg (by exact iNLE 40 i h), nI_clamp (by omega)]
theorem X9_number_eq {S : aSt} {n i : Nat} (h : 4 * n + i < 40) : X9_number_1 (nI n) (nI i) S = S.2.2 7 (4 * n + i) := by
  unfold X9_number_1
  simp only [aLet]
  rw [i4, X6_at_7_eq h]
theorem l_read {N t M k n : Nat} {b : Nat → Int32} {S T : aSt} (hN : 300 ≤ N) (ht : t ≤ 200) (hn : n < 10) (h : LK b t M n k S T) : LRR b t M n S T (dR n) (cN (nI n) (nI 0) (nI 0) (nI 9) (fun S => aLet (X6_at_5 (S.1 1 8) S) (fun w51 => aLet (X9_number_1 (nI n) (nI 0) S) (fun w53 => if w51 = w53 then some (0, S) else cN (nI n) (nI 1) (nI 0) (nI 9) (cN (nI n) (nI 2) (nI 0) (nI 99) fin) S))) S) (rN N (nI 0) (nI 0) (nI 9) (fun T => Option.bind (X11_isNumber_42 N T) (fun w45 => if w45 = (0 : Int32) then rN N (nI 1) (nI 0) (nI 9) (rN N (nI 2) (nI 0) (nI 99) fin) T else Option.bind (X11_value_42 N T) (fun w54 => if aIx (((5 : Int32) * (T.1 42 3)) + (1 : Int32)) 50 = true then (if w54 = (T.2.2 44) (((5 : Int32) * (T.1 42 3)) + (1 : Int32)).toNatClampNeg then some (0, T) else rN N (nI 1) (nI 0) (nI 9) (rN N (nI 2) (nI 0) (nI 99) fin) T) else none))) T) := by
  refine LR_num hN ht hn (by decide) (by decide) (by decide) h AG.rf (fun v0 S1 T1 a0 b0 l1 g1 n0 p1 => ?_)
  have go : LRR b t M n S T (dR n) (cN (nI n) (nI 1) (nI 0) (nI 9) (cN (nI n) (nI 2) (nI 0) (nI 99) fin) S1) (rN N (nI 1) (nI 0) (nI 9) (rN N (nI 2) (nI 0) (nI 99) fin) T1) := by
    refine LR_num hN ht hn (by decide) (by decide) (by decide) l1 g1 (fun v1 S2 T2 a1 b1 l2 g2 n1 p2 => ?_)
    refine LR_num hN ht hn (by decide) (by decide) (by decide) l2 g2 (fun v2 S3 T3 a2 b2 l3 g3 n2 p3 => ?_)
    exact ⟨_, S3, T3, 1, rfl, rfl, l3, g3, Or.inr ⟨rfl, v0, v1, v2, b0, b1, b2, p3 _ _ _ (by decide) (p2 _ _ _ (by decide) n0), p3 _ _ _ (by decide) n1, n2⟩⟩
  have l1' := l1
  obtain ⟨hTS, hk, hS, hT, h3⟩ := l1
  obtain ⟨m1, m2, m3, m4⟩ := hTS
  have hp := pos_le b t (k + 1)
  have tk := m4 (k + 1) (by omega)
  have e7 : X9_number_1 (nI n) (nI 0) S1 = nI v0 := by rw [X9_number_eq (by omega)]; exact n0.1
  have e44 : T1.2.2 44 (5 * n + 1) = nI v0 := n0.2
  simp only [aLet]
  rw [hS, X6_at_5_eq (by omega), tk.2.2, e7]
  rw [h3, m_50, nI_1]
  rcases r_isNumber (N := N) ht hp hT with ⟨n1, n2⟩ | ⟨n1, n2⟩
  · have ev : vc b t (pos b t (k + 1)) = vL b (en b t (pos b t (k + 1)) - pos b t (k + 1)) (pos b t (k + 1)) 0 := by
      unfold vc
      exact if_pos n1
    rw [n2, r_value hN ht hp hT, ← ev]
    simp only [Option.bind_some]
    rw [if_neg n10, if_pos (m_ix (show 5 * n + 1 < 50 by omega) (by decide)), nI_clamp (by omega), e44]
    by_cases c : vc b t (pos b t (k + 1)) = nI v0
    · rw [if_pos c, if_pos c]
      exact ⟨_, S1, T1, 0, rfl, rfl, l1', g1, Or.inl rfl⟩
    · rw [if_neg c, if_neg c]
      exact go
  · have ev : vc b t (pos b t (k + 1)) = -1 := by
      unfold vc
      exact if_neg n1
    rw [n2, ev]
    simp only [Option.bind_some]
    rw [if_neg (fun z => nI_m1 (show v0 < 2 ^ 31 by omega) z.symm), if_pos trivial]
    exact go
