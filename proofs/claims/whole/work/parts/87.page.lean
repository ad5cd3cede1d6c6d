/-! a line: a page's due -/
def wrapC (x : Int32 × aSt) : Option (Int32 × aSt) := if x.1 = (0 : Int32) then some ((0 : Int32), x.2) else some ((1 : Int32), x.2)
theorem wrapC_t (x : Int32 × aSt) : wrapC (if x.1 = (0 : Int32) then ((0 : Int32), x.2) else ((1 : Int32), x.2)) = if x.1 = (0 : Int32) then some ((0 : Int32), x.2) else fin x.2 := by
  by_cases c : x.1 = 0
  · rw [if_pos c, if_pos c]; rfl
  · rw [if_neg c, if_neg c]; rfl
def wr (R : Option (Int32 × aSt)) : Option (Int32 × aSt) := Option.bind R (fun w => if w.1 = 0 ∨ w.1 = 1 then some (w.1, w.2) else none)
theorem LRR.wr {b : Nat → Int32} {t M n : Nat} {S0 T0 : aSt} {D : aSt → aSt → Prop} {C R : Option (Int32 × aSt)} (h : LRR b t M n S0 T0 D C R) : LRR b t M n S0 T0 D C (wr R) := by
  obtain ⟨k, S', T', r, h1, h2, h3, h4, h5⟩ := h
  refine ⟨k, S', T', r, h1, ?_, h3, h4, h5⟩
  rw [h2]
  rcases h5 with rfl | ⟨rfl, -⟩
  · exact o_0 T'
  · exact o_1 T'
theorem LRR.mono {b : Nat → Int32} {t M n : Nat} {S0 T0 : aSt} {D D' : aSt → aSt → Prop} {C R : Option (Int32 × aSt)} (h : LRR b t M n S0 T0 D C R) (hd : ∀ S T, D S T → D' S T) : LRR b t M n S0 T0 D' C R := by
  obtain ⟨k, S', T', r, h1, h2, h3, h4, h5⟩ := h
  exact ⟨k, S', T', r, h1, h2, h3, h4, h5.elim Or.inl (fun q => Or.inr ⟨q.1, hd _ _ q.2⟩)⟩
def PG (N : Nat) (T : aSt) : Option (Int32 × aSt) := (Option.bind (X11_isWord_42 N (661676 : Int32) (4 : Int32) T) (fun w4 => (if w4 = (0 : Int32) then (Option.bind (X11_isWord_42 N (21241138 : Int32) (5 : Int32) T) (fun w7 => (if w7 = (0 : Int32) then (Option.bind (X11_isWord_42 N (169542 : Int32) (4 : Int32) T) (fun w10 => (if w10 = (0 : Int32) then (X11_readsPage_42_b69 N ((5 : Int32) * (T.1 42 3)) ((-1) : Int32) (((5 : Int32) * (T.1 42 3)) + (2 : Int32)) T) else (X11_readsPage_42_b69 N ((5 : Int32) * (T.1 42 3)) (2 : Int32) (((5 : Int32) * (T.1 42 3)) + (2 : Int32)) T)))) else (X11_readsPage_42_b69 N ((5 : Int32) * (T.1 42 3)) (1 : Int32) (((5 : Int32) * (T.1 42 3)) + (2 : Int32)) T)))) else (X11_readsPage_42_b69 N ((5 : Int32) * (T.1 42 3)) (0 : Int32) (((5 : Int32) * (T.1 42 3)) + (2 : Int32)) T))))
/-- the reference takes the word behind the page -/
theorem r_b69 {N t M n k q : Nat} {b : Nat → Int32} {S T : aSt} (hN : 300 ≤ N) (ht : t ≤ 200) (hn : n < 10) (hq : q < 2 ^ 31) (h : LK b t M n k S T) : ∃ V, X11_readsPage_42_b69 N (nI (5 * n)) (nI q) (nI (5 * n + 2)) T = (if q = 2 then fin V else rN N (nI 2) (nI 0) (nI 999999) fin V) ∧ tkR V b t (pos b t (k + 1)) ∧ V.1 42 3 = nI n ∧ V.2.2 44 = upd (T.2.2 44) (5 * n + 2) (nI q) := by
  obtain ⟨hTS, hk, hS, hT, h3⟩ := h
  have hp := pos_le b t k
  obtain ⟨t1, t16, t17, t15, tb⟩ := hT
  have hen := en_le (b := b) hp
  obtain ⟨V, v1, v2⟩ := r_token (T := aA T 44 (upd (T.2.2 44) (5 * n + 2) (nI q))) hN ht hen.2.1 t15 t1 (by rw [gA, if_neg (by decide)]; exact tb)
  have fV := F_X11_token_42 _ _ v1
  have a44 : V.2.2 44 = upd (T.2.2 44) (5 * n + 2) (nI q) := by rw [fV.2.2 44 (by decide), gA, if_pos rfl]
  have e44 : V.2.2 44 (5 * n + 2) = nI q := by rw [a44, gU, if_pos rfl]
  have e2 : nI (5 * n) + (2 : Int32) = nI (5 * n + 2) := nI_add (5 * n) 2
  refine ⟨V, ?_, v2, by rw [fV.1 42 3 (by decide)]; exact h3, a44⟩
  unfold X11_readsPage_42_b69
  rw [e2, if_pos (m_ix (show 5 * n + 2 < 50 by omega) (by decide)), if_pos (m_ix (show 5 * n + 2 < 50 by omega) (by decide)), nI_clamp (by omega), gU, if_pos rfl, if_neg (nI_m1 hq), v1]
  simp only [Option.bind_some]
  rw [if_pos (m_ix (show 5 * n + 2 < 50 by omega) (by decide)), e44]
  by_cases c : q = 2
  · subst c
    rw [if_pos (show nI 2 = (2 : Int32) from rfl), if_pos rfl]
    rfl
  · rw [if_neg (by exact iNE q 2 c), if_neg c]
    rfl
theorem r_b69n {N t M n k : Nat} {b : Nat → Int32} {S T : aSt} (hn : n < 10) (h : LK b t M n k S T) : X11_readsPage_42_b69 N (nI (5 * n)) (-1) (nI (5 * n + 2)) T = some (0, aA T 44 (upd (T.2.2 44) (5 * n + 2) (-1))) := by
  have e2 : nI (5 * n) + (2 : Int32) = nI (5 * n + 2) := nI_add (5 * n) 2
  unfold X11_readsPage_42_b69
  rw [e2, if_pos (m_ix (show 5 * n + 2 < 50 by omega) (by decide)), if_pos (m_ix (show 5 * n + 2 < 50 by omega) (by decide)), nI_clamp (by omega), gU, if_pos rfl, if_pos rfl]
theorem l_due {N t M n k a : Nat} {b : Nat → Int32} {S T S0 T0 : aSt} (hN : 300 ≤ N) (ht : t ≤ 200) (hn : n < 10) (h : LK b t M n k S T) (hA : AG n S0 T0 S T) (ha : a ≤ 5) (hv : NM n S T 0 (nI a)) : LRR b t M n S0 T0 (dP n) (wrapC (X9_readDue_1 (nI n) S)) (PG N T) := by
  have h' := h
  obtain ⟨hTS, hk, hS, hT, h3⟩ := h
  have hTS' := hTS
  obtain ⟨m1, m2, m3, m4⟩ := hTS
  have hp := pos_le b t k
  have tk := m4 k (by omega)
  have e0 : X11_isWord_42 N (661676 : Int32) (4 : Int32) T = some (b32 (isW b 0 (pos b t k) (en b t (pos b t k)))) := r_isWk (k := 0) (by decide) hN ht hp hT
  have e1 : X11_isWord_42 N (21241138 : Int32) (5 : Int32) T = some (b32 (isW b 1 (pos b t k) (en b t (pos b t k)))) := r_isWk (k := 1) (by decide) hN ht hp hT
  have e8 : X11_isWord_42 N (169542 : Int32) (4 : Int32) T = some (b32 (isW b 8 (pos b t k) (en b t (pos b t k)))) := r_isWk (k := 8) (by decide) hN ht hp hT
  have w0 : tc b t (pos b t k) = 10 ↔ isW b 0 (pos b t k) (en b t (pos b t k)) = true := tc_w (k := 0) (by decide) hp
  have w1 : tc b t (pos b t k) = 11 ↔ isW b 1 (pos b t k) (en b t (pos b t k)) = true := tc_w (k := 1) (by decide) hp
  have w8 : tc b t (pos b t k) = 18 ↔ isW b 8 (pos b t k) (en b t (pos b t k)) = true := tc_w (k := 8) (by decide) hp
  have m52 : nI (5 * n) + (2 : Int32) = nI (5 * n + 2) := nI_add (5 * n) 2
  have up : ∀ w, w < 9 → isW b w (pos b t k) (en b t (pos b t k)) = true → k + 1 ≤ M := by
    intro w hw hq
    have hs := isW_sC hw hq
    rcases Nat.lt_or_ge k M with q | q
    · omega
    · exfalso
      have ek : k = M := by omega
      have h2 := hs.2
      rw [ek, m2] at h2
      unfold en at h2
      rw [if_neg (Nat.lt_irrefl t)] at h2
      omega
  have i41 : nI n * (4 : Int32) + (1 : Int32) = nI (4 * n + 1) := i4 n 1
  /- the states behind the word -/
  have st : ∀ (q c : Nat), (q = 0 ∧ c = 10 ∨ q = 1 ∧ c = 11 ∨ q = 2 ∧ c = 18) → k + 1 ≤ M → ∃ V, X11_readsPage_42_b69 N (nI (5 * n)) (nI q) (nI (5 * n + 2)) T = (if q = 2 then fin V else rN N (nI 2) (nI 0) (nI 999999) fin V) ∧ LK b t M n (k + 1) (aI (aA S 7 (upd (S.2.2 7) (4 * n + 1) (nI c))) 1 8 (nI (k + 1))) V ∧ AG n S0 T0 (aI (aA S 7 (upd (S.2.2 7) (4 * n + 1) (nI c))) 1 8 (nI (k + 1))) V ∧ NM2 n (aI (aA S 7 (upd (S.2.2 7) (4 * n + 1) (nI c))) 1 8 (nI (k + 1))) V 0 (nI a) (nI a) ∧ NM2 n (aI (aA S 7 (upd (S.2.2 7) (4 * n + 1) (nI c))) 1 8 (nI (k + 1))) V 1 (nI c) (nI q) := by
    intro q c hqc hM
    obtain ⟨V, v1, v2, v3, v4⟩ := r_b69 (q := q) hN ht hn (by omega) h'
    refine ⟨V, v1, ⟨(hTS'.A (by decide)).I, hM, by rw [gI, if_pos ⟨rfl, rfl⟩], v2, v3⟩, hA.tr ⟨?_, ?_, ?_, ?_⟩, ⟨?_, ?_⟩, ⟨?_, ?_⟩⟩
    · rw [gIa, gA, if_neg (by decide)]
    · rw [gI, if_neg (by decide), gAi]
    · intro j hj
      rw [gIa, gA, if_pos rfl, gU, if_neg (by omega)]
    · intro j hj
      rw [v4, gU, if_neg (by omega)]
    · rw [gIa, gA, if_pos rfl, gU, if_neg (by omega)]; exact hv.1
    · rw [v4, gU, if_neg (by omega)]; exact hv.2
    · rw [gIa, gA, if_pos rfl, gU, if_pos rfl]
    · rw [v4, gU, if_pos (by omega)]
  have go : ∀ (q c : Nat), (q = 0 ∧ c = 10 ∨ q = 1 ∧ c = 11) → k + 1 ≤ M → LRR b t M n S0 T0 (dP n) (wrapC (X9_readDue_1_b32 (nI n) (nI c) S)) (X11_readsPage_42_b69 N (nI (5 * n)) (nI q) (nI (5 * n + 2)) T) := by
    intro q c hqc hM
    obtain ⟨V, v1, v2, v3, v4, v5⟩ := st q c (by omega) hM
    rw [v1, if_neg (by omega)]
    have ec : (wrapC (X9_readDue_1_b32 (nI n) (nI c) S)) = cN (nI n) (nI 2) (nI 0) (nI 999999) fin (aI (aA S 7 (upd (S.2.2 7) (4 * n + 1) (nI c))) 1 8 (nI (k + 1))) := by
      have ed : X9_readDue_1_b32 (nI n) (nI c) S = (if (X9_takeNumber_1 (nI n) (nI 2) (nI 0) (nI 999999) (aI (aA S 7 (upd (S.2.2 7) (4 * n + 1) (nI c))) 1 8 (nI (k + 1)))).1 = (0 : Int32) then ((0 : Int32), (X9_takeNumber_1 (nI n) (nI 2) (nI 0) (nI 999999) (aI (aA S 7 (upd (S.2.2 7) (4 * n + 1) (nI c))) 1 8 (nI (k + 1)))).2) else ((1 : Int32), (X9_takeNumber_1 (nI n) (nI 2) (nI 0) (nI 999999) (aI (aA S 7 (upd (S.2.2 7) (4 * n + 1) (nI c))) 1 8 (nI (k + 1)))).2)) := by
        unfold X9_readDue_1_b32
        simp only [aLet]
        rw [i41, X6_set_7_eq (by omega), gAi, hS, nI_1, if_neg (by exact iNE c 18 (by omega))]
        rfl
      rw [ed, wrapC_t]
      rfl
    rw [ec]
    refine LR_num hN ht hn (by decide) (by decide) (by decide) v2 v3 (fun x S' T' a2 b2 l2 g2 n2 p2 => ?_)
    have q0 := p2 0 _ _ (by decide) v4
    have q1 := p2 1 _ _ (by decide) v5
    refine ⟨_, S', T', 1, rfl, rfl, l2, g2, Or.inr ⟨rfl, a, ha, q0, Or.inl ⟨q, by omega, ?_, q1.2, nI x, n2⟩⟩⟩
    rw [show 10 + q = c by omega]
    exact q1.1
  unfold X9_readDue_1 PG
  rw [hS, X6_at_3_eq (by omega), tk.2.1, aLet, h3, m_50, m52, e0, e1, e8]
  simp only [Option.bind_some]
  by_cases c0 : isW b 0 (pos b t k) (en b t (pos b t k)) = true
  · have g := go 0 10 (Or.inl ⟨rfl, rfl⟩) (up 0 (by decide) c0)
    rw [if_pos (w0.mpr c0), w0.mpr c0, if_neg (fun q => (b32_0 _).mp q c0)]
    exact g
  · rw [if_neg (fun z => c0 (w0.mp z)), if_pos ((b32_0 _).mpr c0)]
    by_cases c1 : isW b 1 (pos b t k) (en b t (pos b t k)) = true
    · have g := go 1 11 (Or.inr ⟨rfl, rfl⟩) (up 1 (by decide) c1)
      rw [if_pos (w1.mpr c1), w1.mpr c1, if_neg (fun q => (b32_0 _).mp q c1)]
      exact g
    · rw [if_neg (fun z => c1 (w1.mp z)), if_pos ((b32_0 _).mpr c1)]
      by_cases c8 : isW b 8 (pos b t k) (en b t (pos b t k)) = true
      · rw [if_pos (w8.mpr c8), w8.mpr c8, if_neg (fun q => (b32_0 _).mp q c8)]
        obtain ⟨V, v1, v2, v3, v4, v5⟩ := st 2 18 (Or.inr (Or.inr ⟨rfl, rfl⟩)) (up 8 (by decide) c8)
        rw [show (2 : Int32) = nI 2 from rfl, v1, if_pos rfl]
        refine ⟨_, _, V, 1, ?_, rfl, v2, v3, Or.inr ⟨rfl, a, ha, v4, Or.inr ⟨v5.1, v5.2⟩⟩⟩
        unfold X9_readDue_1_b32
        simp only [aLet]
        rw [i41, X6_set_7_eq (by omega), gAi, hS, nI_1]
        rfl
      · rw [if_neg (fun z => c8 (w8.mp z)), if_pos ((b32_0 _).mpr c8), r_b69n hn h']
        refine ⟨k, S, _, 0, if_pos rfl, rfl, ⟨hTS', hk, hS, ?_, ?_⟩, hA.tr ⟨rfl, rfl, fun _ _ => rfl, fun j hj => ?_⟩, Or.inl rfl⟩
        · unfold tkR
          rw [gAi, gAi, gAi, gAi, gA, if_neg (by decide)]
          exact hT
        · rw [gAi]; exact h3
        · rw [gA, if_pos rfl, gU, if_neg (by omega)]
theorem l_page {N t M k n : Nat} {b : Nat → Int32} {S T : aSt} (hN : 300 ≤ N) (ht : t ≤ 200) (hn : n < 10) (h : LK b t M n k S T) : LRR b t M n S T (dP n) (cN (nI n) (nI 0) (nI 0) (nI 5) (fun S => wrapC (X9_readDue_1 (nI n) S)) S) (rN N (nI 0) (nI 0) (nI 5) (PG N) T) := by
  refine LR_num hN ht hn (by decide) (by decide) (by decide) h AG.rf (fun v0 S1 T1 a0 b0 l1 g1 n0 p1 => ?_)
  exact l_due hN ht hn l1 g1 b0 n0
