/-! words -/
def alw (g : Nat → Bool) : Nat → Nat → Bool
  | _, 0 => true
  | i, m + 1 => g i && alw g (i + 1) m
theorem alw_all {g : Nat → Bool} : ∀ (m i : Nat), alw g i m = true → ∀ j, i ≤ j → j < i + m → g j = true := by
  intro m
  induction m with
  | zero => intro i _ j h1 h2; omega
  | succ m ih =>
    intro i h j h1 h2
    rw [alw, Bool.and_eq_true] at h
    by_cases c : j = i
    · rw [c]; exact h.1
    · exact ih (i + 1) h.2 j (by omega) (by omega)
theorem isL {F : Nat → Int32 → Option Int32} {g : Nat → Bool} {w : Nat} (st : ∀ f i, i < w → F (f + 2) (nI i) = if g i = true then F (f + 1) (nI (i + 1)) else some 0) (ex : ∀ f, F (f + 1) (nI w) = some 1) : ∀ (m i f : Nat), i + m = w → m + 1 < f → F f (nI i) = some (b32 (alw g i m)) := by
  intro m
  induction m with
  | zero =>
    intro i f hi hf
    obtain ⟨f, rfl⟩ : ∃ q, f = q + 1 := ⟨f - 1, by omega⟩
    have : i = w := by omega
    subst this
    rw [ex]
    rfl
  | succ m ih =>
    intro i f hi hf
    obtain ⟨f, rfl⟩ : ∃ q, f = q + 2 := ⟨f - 2, by omega⟩
    rw [st f i (by omega), alw]
    by_cases c : g i = true
    · rw [if_pos c, c, Bool.true_and]
      exact ih (i + 1) (f + 1) (by omega) (by omega)
    · rw [if_neg c, Bool.eq_false_iff.mpr c, Bool.false_and]
      rfl
def wd (k : Nat) : List Nat := [[108, 101, 102, 116], [114, 105, 103, 104, 116], [104, 97, 110, 100], [114, 101, 97, 100], [109, 105, 115, 115, 101, 100], [99, 97, 114, 114, 121], [115, 101, 99, 111, 110, 100], [112, 97, 103, 101], [102, 114, 101, 101]].getD k []
def wcd (k : Nat) : Int32 := [661676, 21241138, 145448, 132274, 140102957, 26822691, 149392563, 171056, 169542].getD k 0
def isW (b : Nat → Int32) (k p e : Nat) : Bool := decide (e - p = (wd k).length) && alw (fun i => decide (nI ((wd k).getD i 0) = b (p + i))) 0 (wd k).length
theorem X6_at_2_eq {S : aSt} {i : Nat} (h : i < 200) : X6_at_2 (nI i) S = S.2.2 2 i := by
  unfold X6_at_2
  rw [if_neg (nI_pos (by omega)), if_neg (by exact iNLE 200 i h), nI_clamp (by omega)]
theorem c_is0 {N p e : Nat} {S : aSt} (hN : 20 ≤ N) (hp : p ≤ e) (he : e ≤ 200) : X9_is_1_1002 N (nI p) (nI e) S = some (b32 (isW (S.2.2 2) 0 p e)) := by
  have hl : J0_length_8abf5_1002 = nI 4 := by decide
  have hc : ∀ i, i < 4 → J0_charAt_5068e_1002 N (nI i) = some (nI ((wd 0).getD i 0)) := by
    intro i hi
    rcases (show i = 0 ∨ i = 1 ∨ i = 2 ∨ i = 3 by omega) with rfl | rfl | rfl | rfl <;> rfl
  unfold X9_is_1_1002 isW
  simp only [aLet]
  rw [hl, pk_sub hp]
  by_cases c : e - p = 4
  · rw [if_pos (by rw [c]), decide_eq_true (show e - p = (wd 0).length from c), Bool.true_and]
    refine isL (F := fun f v => X9_is_1_1002_l15 N S f (nI p) v) (w := 4) (fun f i hi => ?_) (fun f => ?_) 4 0 N (by omega) (by omega)
    · show X9_is_1_1002_b15 N S (X9_is_1_1002_l15 N S (f + 1)) _ _ = _
      unfold X9_is_1_1002_b15
      simp only [aLet]
      rw [hl, if_neg (by exact iNLE 4 i hi), hc i hi, nI_add, nI_1, X6_at_2_eq (by omega)]
      simp only [Option.bind_some, decide_eq_true_eq]
    · show X9_is_1_1002_b15 N S (X9_is_1_1002_l15 N S f) _ _ = _
      unfold X9_is_1_1002_b15
      simp only [aLet]
      rw [hl, if_pos (Int32.le_refl _)]
  · rw [if_neg (by rw [nI_eq (by omega) (by omega)]; exact c), decide_eq_false (show ¬ e - p = (wd 0).length from c), Bool.false_and]
    rfl
theorem c_is1 {N p e : Nat} {S : aSt} (hN : 20 ≤ N) (hp : p ≤ e) (he : e ≤ 200) : X9_is_1_1003 N (nI p) (nI e) S = some (b32 (isW (S.2.2 2) 1 p e)) := by
  have hl : J0_length_8abf5_1003 = nI 5 := by decide
  have hc : ∀ i, i < 5 → J0_charAt_5068e_1003 N (nI i) = some (nI ((wd 1).getD i 0)) := by
    intro i hi
    rcases (show i = 0 ∨ i = 1 ∨ i = 2 ∨ i = 3 ∨ i = 4 by omega) with rfl | rfl | rfl | rfl | rfl <;> rfl
  unfold X9_is_1_1003 isW
  simp only [aLet]
  rw [hl, pk_sub hp]
  by_cases c : e - p = 5
  · rw [if_pos (by rw [c]), decide_eq_true (show e - p = (wd 1).length from c), Bool.true_and]
    refine isL (F := fun f v => X9_is_1_1003_l15 N S f (nI p) v) (w := 5) (fun f i hi => ?_) (fun f => ?_) 5 0 N (by omega) (by omega)
    · show X9_is_1_1003_b15 N S (X9_is_1_1003_l15 N S (f + 1)) _ _ = _
      unfold X9_is_1_1003_b15
      simp only [aLet]
      rw [hl, if_neg (by exact iNLE 5 i hi), hc i hi, nI_add, nI_1, X6_at_2_eq (by omega)]
      simp only [Option.bind_some, decide_eq_true_eq]
    · show X9_is_1_1003_b15 N S (X9_is_1_1003_l15 N S f) _ _ = _
      unfold X9_is_1_1003_b15
      simp only [aLet]
      rw [hl, if_pos (Int32.le_refl _)]
  · rw [if_neg (by rw [nI_eq (by omega) (by omega)]; exact c), decide_eq_false (show ¬ e - p = (wd 1).length from c), Bool.false_and]
    rfl
theorem c_is2 {N p e : Nat} {S : aSt} (hN : 20 ≤ N) (hp : p ≤ e) (he : e ≤ 200) : X9_is_1_1004 N (nI p) (nI e) S = some (b32 (isW (S.2.2 2) 2 p e)) := by
  have hl : J0_length_8abf5_1004 = nI 4 := by decide
  have hc : ∀ i, i < 4 → J0_charAt_5068e_1004 N (nI i) = some (nI ((wd 2).getD i 0)) := by
    intro i hi
    rcases (show i = 0 ∨ i = 1 ∨ i = 2 ∨ i = 3 by omega) with rfl | rfl | rfl | rfl <;> rfl
  unfold X9_is_1_1004 isW
  simp only [aLet]
  rw [hl, pk_sub hp]
  by_cases c : e - p = 4
  · rw [if_pos (by rw [c]), decide_eq_true (show e - p = (wd 2).length from c), Bool.true_and]
    refine isL (F := fun f v => X9_is_1_1004_l15 N S f (nI p) v) (w := 4) (fun f i hi => ?_) (fun f => ?_) 4 0 N (by omega) (by omega)
    · show X9_is_1_1004_b15 N S (X9_is_1_1004_l15 N S (f + 1)) _ _ = _
      unfold X9_is_1_1004_b15
      simp only [aLet]
      rw [hl, if_neg (by exact iNLE 4 i hi), hc i hi, nI_add, nI_1, X6_at_2_eq (by omega)]
      simp only [Option.bind_some, decide_eq_true_eq]
    · show X9_is_1_1004_b15 N S (X9_is_1_1004_l15 N S f) _ _ = _
      unfold X9_is_1_1004_b15
      simp only [aLet]
      rw [hl, if_pos (Int32.le_refl _)]
  · rw [if_neg (by rw [nI_eq (by omega) (by omega)]; exact c), decide_eq_false (show ¬ e - p = (wd 2).length from c), Bool.false_and]
    rfl
theorem c_is3 {N p e : Nat} {S : aSt} (hN : 20 ≤ N) (hp : p ≤ e) (he : e ≤ 200) : X9_is_1_1005 N (nI p) (nI e) S = some (b32 (isW (S.2.2 2) 3 p e)) := by
  have hl : J0_length_8abf5_1005 = nI 4 := by decide
  have hc : ∀ i, i < 4 → J0_charAt_5068e_1005 N (nI i) = some (nI ((wd 3).getD i 0)) := by
    intro i hi
    rcases (show i = 0 ∨ i = 1 ∨ i = 2 ∨ i = 3 by omega) with rfl | rfl | rfl | rfl <;> rfl
  unfold X9_is_1_1005 isW
  simp only [aLet]
  rw [hl, pk_sub hp]
  by_cases c : e - p = 4
  · rw [if_pos (by rw [c]), decide_eq_true (show e - p = (wd 3).length from c), Bool.true_and]
    refine isL (F := fun f v => X9_is_1_1005_l15 N S f (nI p) v) (w := 4) (fun f i hi => ?_) (fun f => ?_) 4 0 N (by omega) (by omega)
    · show X9_is_1_1005_b15 N S (X9_is_1_1005_l15 N S (f + 1)) _ _ = _
      unfold X9_is_1_1005_b15
      simp only [aLet]
      rw [hl, if_neg (by exact iNLE 4 i hi), hc i hi, nI_add, nI_1, X6_at_2_eq (by omega)]
      simp only [Option.bind_some, decide_eq_true_eq]
    · show X9_is_1_1005_b15 N S (X9_is_1_1005_l15 N S f) _ _ = _
      unfold X9_is_1_1005_b15
      simp only [aLet]
      rw [hl, if_pos (Int32.le_refl _)]
  · rw [if_neg (by rw [nI_eq (by omega) (by omega)]; exact c), decide_eq_false (show ¬ e - p = (wd 3).length from c), Bool.false_and]
    rfl
theorem c_is4 {N p e : Nat} {S : aSt} (hN : 20 ≤ N) (hp : p ≤ e) (he : e ≤ 200) : X9_is_1_1006 N (nI p) (nI e) S = some (b32 (isW (S.2.2 2) 4 p e)) := by
  have hl : J0_length_8abf5_1006 = nI 6 := by decide
  have hc : ∀ i, i < 6 → J0_charAt_5068e_1006 N (nI i) = some (nI ((wd 4).getD i 0)) := by
    intro i hi
    rcases (show i = 0 ∨ i = 1 ∨ i = 2 ∨ i = 3 ∨ i = 4 ∨ i = 5 by omega) with rfl | rfl | rfl | rfl | rfl | rfl <;> rfl
  unfold X9_is_1_1006 isW
  simp only [aLet]
  rw [hl, pk_sub hp]
  by_cases c : e - p = 6
  · rw [if_pos (by rw [c]), decide_eq_true (show e - p = (wd 4).length from c), Bool.true_and]
    refine isL (F := fun f v => X9_is_1_1006_l15 N S f (nI p) v) (w := 6) (fun f i hi => ?_) (fun f => ?_) 6 0 N (by omega) (by omega)
    · show X9_is_1_1006_b15 N S (X9_is_1_1006_l15 N S (f + 1)) _ _ = _
      unfold X9_is_1_1006_b15
      simp only [aLet]
      rw [hl, if_neg (by exact iNLE 6 i hi), hc i hi, nI_add, nI_1, X6_at_2_eq (by omega)]
      simp only [Option.bind_some, decide_eq_true_eq]
    · show X9_is_1_1006_b15 N S (X9_is_1_1006_l15 N S f) _ _ = _
      unfold X9_is_1_1006_b15
      simp only [aLet]
      rw [hl, if_pos (Int32.le_refl _)]
  · rw [if_neg (by rw [nI_eq (by omega) (by omega)]; exact c), decide_eq_false (show ¬ e - p = (wd 4).length from c), Bool.false_and]
    rfl
theorem c_is5 {N p e : Nat} {S : aSt} (hN : 20 ≤ N) (hp : p ≤ e) (he : e ≤ 200) : X9_is_1_1007 N (nI p) (nI e) S = some (b32 (isW (S.2.2 2) 5 p e)) := by
  have hl : J0_length_8abf5_1007 = nI 5 := by decide
  have hc : ∀ i, i < 5 → J0_charAt_5068e_1007 N (nI i) = some (nI ((wd 5).getD i 0)) := by
    intro i hi
    rcases (show i = 0 ∨ i = 1 ∨ i = 2 ∨ i = 3 ∨ i = 4 by omega) with rfl | rfl | rfl | rfl | rfl <;> rfl
  unfold X9_is_1_1007 isW
  simp only [aLet]
  rw [hl, pk_sub hp]
  by_cases c : e - p = 5
  · rw [if_pos (by rw [c]), decide_eq_true (show e - p = (wd 5).length from c), Bool.true_and]
    refine isL (F := fun f v => X9_is_1_1007_l15 N S f (nI p) v) (w := 5) (fun f i hi => ?_) (fun f => ?_) 5 0 N (by omega) (by omega)
    · show X9_is_1_1007_b15 N S (X9_is_1_1007_l15 N S (f + 1)) _ _ = _
      unfold X9_is_1_1007_b15
      simp only [aLet]
      rw [hl, if_neg (by exact iNLE 5 i hi), hc i hi, nI_add, nI_1, X6_at_2_eq (by omega)]
      simp only [Option.bind_some, decide_eq_true_eq]
    · show X9_is_1_1007_b15 N S (X9_is_1_1007_l15 N S f) _ _ = _
      unfold X9_is_1_1007_b15
      simp only [aLet]
      rw [hl, if_pos (Int32.le_refl _)]
  · rw [if_neg (by rw [nI_eq (by omega) (by omega)]; exact c), decide_eq_false (show ¬ e - p = (wd 5).length from c), Bool.false_and]
    rfl
theorem c_is6 {N p e : Nat} {S : aSt} (hN : 20 ≤ N) (hp : p ≤ e) (he : e ≤ 200) : X9_is_1_1008 N (nI p) (nI e) S = some (b32 (isW (S.2.2 2) 6 p e)) := by
  have hl : J0_length_8abf5_1008 = nI 6 := by decide
  have hc : ∀ i, i < 6 → J0_charAt_5068e_1008 N (nI i) = some (nI ((wd 6).getD i 0)) := by
    intro i hi
    rcases (show i = 0 ∨ i = 1 ∨ i = 2 ∨ i = 3 ∨ i = 4 ∨ i = 5 by omega) with rfl | rfl | rfl | rfl | rfl | rfl <;> rfl
  unfold X9_is_1_1008 isW
  simp only [aLet]
  rw [hl, pk_sub hp]
  by_cases c : e - p = 6
  · rw [if_pos (by rw [c]), decide_eq_true (show e - p = (wd 6).length from c), Bool.true_and]
    refine isL (F := fun f v => X9_is_1_1008_l15 N S f (nI p) v) (w := 6) (fun f i hi => ?_) (fun f => ?_) 6 0 N (by omega) (by omega)
    · show X9_is_1_1008_b15 N S (X9_is_1_1008_l15 N S (f + 1)) _ _ = _
      unfold X9_is_1_1008_b15
      simp only [aLet]
      rw [hl, if_neg (by exact iNLE 6 i hi), hc i hi, nI_add, nI_1, X6_at_2_eq (by omega)]
      simp only [Option.bind_some, decide_eq_true_eq]
    · show X9_is_1_1008_b15 N S (X9_is_1_1008_l15 N S f) _ _ = _
      unfold X9_is_1_1008_b15
      simp only [aLet]
      rw [hl, if_pos (Int32.le_refl _)]
  · rw [if_neg (by rw [nI_eq (by omega) (by omega)]; exact c), decide_eq_false (show ¬ e - p = (wd 6).length from c), Bool.false_and]
    rfl
theorem c_is7 {N p e : Nat} {S : aSt} (hN : 20 ≤ N) (hp : p ≤ e) (he : e ≤ 200) : X9_is_1_1009 N (nI p) (nI e) S = some (b32 (isW (S.2.2 2) 7 p e)) := by
  have hl : J0_length_8abf5_1009 = nI 4 := by decide
  have hc : ∀ i, i < 4 → J0_charAt_5068e_1009 N (nI i) = some (nI ((wd 7).getD i 0)) := by
    intro i hi
    rcases (show i = 0 ∨ i = 1 ∨ i = 2 ∨ i = 3 by omega) with rfl | rfl | rfl | rfl <;> rfl
  unfold X9_is_1_1009 isW
  simp only [aLet]
  rw [hl, pk_sub hp]
  by_cases c : e - p = 4
  · rw [if_pos (by rw [c]), decide_eq_true (show e - p = (wd 7).length from c), Bool.true_and]
    refine isL (F := fun f v => X9_is_1_1009_l15 N S f (nI p) v) (w := 4) (fun f i hi => ?_) (fun f => ?_) 4 0 N (by omega) (by omega)
    · show X9_is_1_1009_b15 N S (X9_is_1_1009_l15 N S (f + 1)) _ _ = _
      unfold X9_is_1_1009_b15
      simp only [aLet]
      rw [hl, if_neg (by exact iNLE 4 i hi), hc i hi, nI_add, nI_1, X6_at_2_eq (by omega)]
      simp only [Option.bind_some, decide_eq_true_eq]
    · show X9_is_1_1009_b15 N S (X9_is_1_1009_l15 N S f) _ _ = _
      unfold X9_is_1_1009_b15
      simp only [aLet]
      rw [hl, if_pos (Int32.le_refl _)]
  · rw [if_neg (by rw [nI_eq (by omega) (by omega)]; exact c), decide_eq_false (show ¬ e - p = (wd 7).length from c), Bool.false_and]
    rfl
theorem c_is8 {N p e : Nat} {S : aSt} (hN : 20 ≤ N) (hp : p ≤ e) (he : e ≤ 200) : X9_is_1_1010 N (nI p) (nI e) S = some (b32 (isW (S.2.2 2) 8 p e)) := by
  have hl : J0_length_8abf5_1010 = nI 4 := by decide
  have hc : ∀ i, i < 4 → J0_charAt_5068e_1010 N (nI i) = some (nI ((wd 8).getD i 0)) := by
    intro i hi
    rcases (show i = 0 ∨ i = 1 ∨ i = 2 ∨ i = 3 by omega) with rfl | rfl | rfl | rfl <;> rfl
  unfold X9_is_1_1010 isW
  simp only [aLet]
  rw [hl, pk_sub hp]
  by_cases c : e - p = 4
  · rw [if_pos (by rw [c]), decide_eq_true (show e - p = (wd 8).length from c), Bool.true_and]
    refine isL (F := fun f v => X9_is_1_1010_l15 N S f (nI p) v) (w := 4) (fun f i hi => ?_) (fun f => ?_) 4 0 N (by omega) (by omega)
    · show X9_is_1_1010_b15 N S (X9_is_1_1010_l15 N S (f + 1)) _ _ = _
      unfold X9_is_1_1010_b15
      simp only [aLet]
      rw [hl, if_neg (by exact iNLE 4 i hi), hc i hi, nI_add, nI_1, X6_at_2_eq (by omega)]
      simp only [Option.bind_some, decide_eq_true_eq]
    · show X9_is_1_1010_b15 N S (X9_is_1_1010_l15 N S f) _ _ = _
      unfold X9_is_1_1010_b15
      simp only [aLet]
      rw [hl, if_pos (Int32.le_refl _)]
  · rw [if_neg (by rw [nI_eq (by omega) (by omega)]; exact c), decide_eq_false (show ¬ e - p = (wd 8).length from c), Bool.false_and]
    rfl
/-- the word that a row of letters is -/
def wk (b : Nat → Int32) (p e : Nat) : Nat := if isW b 0 p e = true then 0 else if isW b 1 p e = true then 1 else if isW b 2 p e = true then 2 else if isW b 3 p e = true then 3 else if isW b 4 p e = true then 4 else if isW b 5 p e = true then 5 else if isW b 6 p e = true then 6 else if isW b 7 p e = true then 7 else if isW b 8 p e = true then 8 else 9
theorem wk_le (b : Nat → Int32) (p e : Nat) : wk b p e ≤ 9 := by
  unfold wk
  (repeat' split) <;> omega
theorem c_wordOf {N p e : Nat} {S : aSt} (hN : 20 ≤ N) (hp : p ≤ e) (he : e ≤ 200) : X9_wordOf_1 N (nI p) (nI e) S = some (if wk (S.2.2 2) p e = 9 then 3 else nI (10 + wk (S.2.2 2) p e)) := by
  unfold X9_wordOf_1 wk
  rw [c_is0 hN hp he, c_is1 hN hp he, c_is2 hN hp he, c_is3 hN hp he, c_is4 hN hp he, c_is5 hN hp he, c_is6 hN hp he, c_is7 hN hp he, c_is8 hN hp he]
  simp only [Option.bind_some]
  by_cases c0 : isW (S.2.2 2) 0 p e = true
  · rw [if_neg (fun q => (b32_0 _).mp q c0), if_pos c0]; rfl
  rw [if_pos ((b32_0 _).mpr c0), if_neg c0]
  by_cases c1 : isW (S.2.2 2) 1 p e = true
  · rw [if_neg (fun q => (b32_0 _).mp q c1), if_pos c1]; rfl
  rw [if_pos ((b32_0 _).mpr c1), if_neg c1]
  by_cases c2 : isW (S.2.2 2) 2 p e = true
  · rw [if_neg (fun q => (b32_0 _).mp q c2), if_pos c2]; rfl
  rw [if_pos ((b32_0 _).mpr c2), if_neg c2]
  by_cases c3 : isW (S.2.2 2) 3 p e = true
  · rw [if_neg (fun q => (b32_0 _).mp q c3), if_pos c3]; rfl
  rw [if_pos ((b32_0 _).mpr c3), if_neg c3]
  by_cases c4 : isW (S.2.2 2) 4 p e = true
  · rw [if_neg (fun q => (b32_0 _).mp q c4), if_pos c4]; rfl
  rw [if_pos ((b32_0 _).mpr c4), if_neg c4]
  by_cases c5 : isW (S.2.2 2) 5 p e = true
  · rw [if_neg (fun q => (b32_0 _).mp q c5), if_pos c5]; rfl
  rw [if_pos ((b32_0 _).mpr c5), if_neg c5]
  by_cases c6 : isW (S.2.2 2) 6 p e = true
  · rw [if_neg (fun q => (b32_0 _).mp q c6), if_pos c6]; rfl
  rw [if_pos ((b32_0 _).mpr c6), if_neg c6]
  by_cases c7 : isW (S.2.2 2) 7 p e = true
  · rw [if_neg (fun q => (b32_0 _).mp q c7), if_pos c7]; rfl
  rw [if_pos ((b32_0 _).mpr c7), if_neg c7]
  by_cases c8 : isW (S.2.2 2) 8 p e = true
  · rw [if_neg (fun q => (b32_0 _).mp q c8), if_pos c8]; rfl
  rw [if_pos ((b32_0 _).mpr c8), if_neg c8]
  rfl
theorem r_isW {N p e k : Nat} {b : Nat → Int32} {T : aSt} (hk : k < 9) (hN : 20 ≤ N) (hp : p ≤ e) (he : e ≤ 200) (h16 : T.1 42 16 = nI p) (h17 : T.1 42 17 = nI e) (hb : ∀ i, i < e → T.2.2 43 i = b i) : X11_isWord_42 N (wcd k) (nI (wd k).length) T = some (b32 (isW b k p e)) := by
  have key : ∀ k, k < 9 → (wd k).length < 7 ∧ ∀ i, i < (wd k).length → (96 : Int32) + ((wcd k >>> (((5 : Int32) * nI i) &&& 31)) &&& (31 : Int32)) = nI ((wd k).getD i 0) := by decide +kernel
  have hl := (key k hk).1
  unfold X11_isWord_42 X11_isWord_42_b18 isW
  rw [h17, h16, pk_sub hp]
  by_cases c : e - p = (wd k).length
  · rw [if_pos (by rw [c]), decide_eq_true c, Bool.true_and]
    refine isL (F := fun f v => X11_isWord_42_l22 N T f (wcd k) (nI (wd k).length) 1 v) (w := (wd k).length) (fun f i hi => ?_) (fun f => ?_) (wd k).length 0 N (by omega) (by omega)
    · show X11_isWord_42_b22 N T (X11_isWord_42_l22 N T (f + 1)) _ _ _ _ = _
      unfold X11_isWord_42_b22 X11_isWord_42_b64
      rw [if_neg n10, if_neg (by exact iNLE (wd k).length i hi), (key k hk).2 i hi, h16, nI_add, if_pos (m_ix (show p + i < 200 by omega) (by decide)), nI_clamp (by omega), hb (p + i) (by omega), nI_1]
      by_cases c2 : nI ((wd k).getD i 0) = b (p + i)
      · rw [if_pos c2.symm, decide_eq_true c2, if_pos rfl]
      · rw [if_neg (fun z => c2 z.symm), decide_eq_false c2, if_neg (by decide)]
        show X11_isWord_42_b22 N T (X11_isWord_42_l22 N T f) _ _ _ _ = _
        unfold X11_isWord_42_b22
        rw [if_pos rfl, if_pos (Or.inl rfl)]
    · show X11_isWord_42_b22 N T (X11_isWord_42_l22 N T f) _ _ _ _ = _
      unfold X11_isWord_42_b22
      rw [if_neg n10, if_pos (Int32.le_refl _), if_pos (Or.inr rfl)]
  · rw [if_neg (by rw [nI_eq (by omega) (by omega)]; exact c), decide_eq_false c, Bool.false_and]
    obtain ⟨g, rfl⟩ : ∃ q, N = q + 1 := ⟨N - 1, by omega⟩
    show X11_isWord_42_b22 (g + 1) T (X11_isWord_42_l22 (g + 1) T g) _ _ _ _ = _
    unfold X11_isWord_42_b22
    rw [if_pos rfl, if_pos (Or.inl rfl)]
    rfl
