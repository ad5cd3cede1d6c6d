/-! the rules by which contracts are proved: straight runs, branches, array cells, results, calls, new cells -/
theorem aRun_ok {C : aC} {M : aM} {k n : Nat} (hC : aCx C M) (hT : aOK M) : ∀ (q : Nat) {cf cf' : aCf}, aRun q M cf = some cf' → aX C M k n cf' → aX C M k n cf
  | 0, cf, cf', h, kk => by cases h; exact kk
  | q + 1, cf, cf', h, kk => by
    unfold aRun at h
    split at h
    · cases h
    · rename_i c1 h1
      have k1 := aRun_ok hC hT q h kk
      unfold aStep at h1
      split at h1
      · cases h1
      · rename_i w hw
        exact aIns_ok hC hT (aDc hT hw) h1 k1
/-- other locals, in another order: each that is listed now was listed -/
theorem aLocs {C : aC} {M : aM} {k n pc : Nat} {lv lv' : List (Nat × Value)} {st : List Value} {lay : aLay} {S : aSt} (ks : List Nat) (hks : ks.filterMap (fun i => lv[i]?) = lv') (kk : aX C M k n (pc, lv', st, lay, S)) : aX C M k n (pc, lv, st, lay, S) := by
  obtain ⟨g, p, l, e, R, s, m, args, below, meth, c, Q⟩ := C
  intro H ls locs hP hz hl hS
  refine kk H ls locs hP hz ⟨hl.1, hl.2.1, fun q hq => ?_⟩ hS
  obtain ⟨q0, hq0, rfl⟩ := List.mem_map.mp hq
  refine hl.2.2 _ (List.mem_map.mpr ⟨q0, ?_, rfl⟩)
  have hq1 : q0 ∈ lv' := hq0
  rw [← hks] at hq1
  obtain ⟨i, -, hi⟩ := List.mem_filterMap.mp hq1
  exact List.mem_of_getElem? hi
section AB
variable {C : aC} {M : aM} {k n pc : Nat} {lv : List (Nat × Value)} {st : List Value} {lay : aLay} {S : aSt}
theorem aIf_eq (hC : aCx C M) (hT : aOK M) {x : Int32} {off : Int} {tgt : Nat} (hq : aLk M.2.2.2.2.2.2.1 pc = some (.ifCond .eq off, 3)) (ht : (pc : Int) + off = (tgt : Int)) (kt : x = 0 → aX C M k n (tgt, lv, st, lay, S)) (kf : ¬ x = 0 → aX C M k n (pc + 3, lv, st, lay, S)) : aX C M k n (pc, lv, .int x :: st, lay, S) := by
  obtain ⟨g, p, l, e, R, s, m, args, below, meth, c, Q⟩ := C
  obtain ⟨hx, hb, -⟩ := hC
  intro H ls locs hP hz hl hS
  exact lv_if_eq hx hb (aDc hT hq) ht (fun h => kt h H ls locs hP hz hl hS) (fun h => kf h H ls locs hP hz hl hS)
theorem aIf_ne (hC : aCx C M) (hT : aOK M) {x : Int32} {off : Int} {tgt : Nat} (hq : aLk M.2.2.2.2.2.2.1 pc = some (.ifCond .ne off, 3)) (ht : (pc : Int) + off = (tgt : Int)) (kt : ¬ x = 0 → aX C M k n (tgt, lv, st, lay, S)) (kf : x = 0 → aX C M k n (pc + 3, lv, st, lay, S)) : aX C M k n (pc, lv, .int x :: st, lay, S) := by
  obtain ⟨g, p, l, e, R, s, m, args, below, meth, c, Q⟩ := C
  obtain ⟨hx, hb, -⟩ := hC
  intro H ls locs hP hz hl hS
  exact lv_if_ne hx hb (aDc hT hq) ht (fun h => kt h H ls locs hP hz hl hS) (fun h => kf h H ls locs hP hz hl hS)
theorem aIf_lt (hC : aCx C M) (hT : aOK M) {x : Int32} {off : Int} {tgt : Nat} (hq : aLk M.2.2.2.2.2.2.1 pc = some (.ifCond .lt off, 3)) (ht : (pc : Int) + off = (tgt : Int)) (kt : x < 0 → aX C M k n (tgt, lv, st, lay, S)) (kf : ¬ x < 0 → aX C M k n (pc + 3, lv, st, lay, S)) : aX C M k n (pc, lv, .int x :: st, lay, S) := by
  obtain ⟨g, p, l, e, R, s, m, args, below, meth, c, Q⟩ := C
  obtain ⟨hx, hb, -⟩ := hC
  intro H ls locs hP hz hl hS
  exact lv_if_lt hx hb (aDc hT hq) ht (fun h => kt h H ls locs hP hz hl hS) (fun h => kf h H ls locs hP hz hl hS)
theorem aIf_ge (hC : aCx C M) (hT : aOK M) {x : Int32} {off : Int} {tgt : Nat} (hq : aLk M.2.2.2.2.2.2.1 pc = some (.ifCond .ge off, 3)) (ht : (pc : Int) + off = (tgt : Int)) (kt : 0 ≤ x → aX C M k n (tgt, lv, st, lay, S)) (kf : ¬ 0 ≤ x → aX C M k n (pc + 3, lv, st, lay, S)) : aX C M k n (pc, lv, .int x :: st, lay, S) := by
  obtain ⟨g, p, l, e, R, s, m, args, below, meth, c, Q⟩ := C
  obtain ⟨hx, hb, -⟩ := hC
  intro H ls locs hP hz hl hS
  exact lv_if_ge hx hb (aDc hT hq) ht (fun h => kt h H ls locs hP hz hl hS) (fun h => kf h H ls locs hP hz hl hS)
theorem aIf_gt (hC : aCx C M) (hT : aOK M) {x : Int32} {off : Int} {tgt : Nat} (hq : aLk M.2.2.2.2.2.2.1 pc = some (.ifCond .gt off, 3)) (ht : (pc : Int) + off = (tgt : Int)) (kt : 0 < x → aX C M k n (tgt, lv, st, lay, S)) (kf : ¬ 0 < x → aX C M k n (pc + 3, lv, st, lay, S)) : aX C M k n (pc, lv, .int x :: st, lay, S) := by
  obtain ⟨g, p, l, e, R, s, m, args, below, meth, c, Q⟩ := C
  obtain ⟨hx, hb, -⟩ := hC
  intro H ls locs hP hz hl hS
  exact lv_if_gt hx hb (aDc hT hq) ht (fun h => kt h H ls locs hP hz hl hS) (fun h => kf h H ls locs hP hz hl hS)
theorem aIf_le (hC : aCx C M) (hT : aOK M) {x : Int32} {off : Int} {tgt : Nat} (hq : aLk M.2.2.2.2.2.2.1 pc = some (.ifCond .le off, 3)) (ht : (pc : Int) + off = (tgt : Int)) (kt : x ≤ 0 → aX C M k n (tgt, lv, st, lay, S)) (kf : ¬ x ≤ 0 → aX C M k n (pc + 3, lv, st, lay, S)) : aX C M k n (pc, lv, .int x :: st, lay, S) := by
  obtain ⟨g, p, l, e, R, s, m, args, below, meth, c, Q⟩ := C
  obtain ⟨hx, hb, -⟩ := hC
  intro H ls locs hP hz hl hS
  exact lv_if_le hx hb (aDc hT hq) ht (fun h => kt h H ls locs hP hz hl hS) (fun h => kf h H ls locs hP hz hl hS)
theorem aCmp_eq (hC : aCx C M) (hT : aOK M) {x y : Int32} {off : Int} {tgt : Nat} (hq : aLk M.2.2.2.2.2.2.1 pc = some (.if_icmp .eq off, 3)) (ht : (pc : Int) + off = (tgt : Int)) (kt : x = y → aX C M k n (tgt, lv, st, lay, S)) (kf : ¬ x = y → aX C M k n (pc + 3, lv, st, lay, S)) : aX C M k n (pc, lv, .int y :: .int x :: st, lay, S) := by
  obtain ⟨g, p, l, e, R, s, m, args, below, meth, c, Q⟩ := C
  obtain ⟨hx, hb, -⟩ := hC
  intro H ls locs hP hz hl hS
  exact lv_icmp_eq hx hb (aDc hT hq) ht (fun h => kt h H ls locs hP hz hl hS) (fun h => kf h H ls locs hP hz hl hS)
theorem aCmp_ne (hC : aCx C M) (hT : aOK M) {x y : Int32} {off : Int} {tgt : Nat} (hq : aLk M.2.2.2.2.2.2.1 pc = some (.if_icmp .ne off, 3)) (ht : (pc : Int) + off = (tgt : Int)) (kt : ¬ x = y → aX C M k n (tgt, lv, st, lay, S)) (kf : x = y → aX C M k n (pc + 3, lv, st, lay, S)) : aX C M k n (pc, lv, .int y :: .int x :: st, lay, S) := by
  obtain ⟨g, p, l, e, R, s, m, args, below, meth, c, Q⟩ := C
  obtain ⟨hx, hb, -⟩ := hC
  intro H ls locs hP hz hl hS
  exact lv_icmp_ne hx hb (aDc hT hq) ht (fun h => kt h H ls locs hP hz hl hS) (fun h => kf h H ls locs hP hz hl hS)
theorem aCmp_lt (hC : aCx C M) (hT : aOK M) {x y : Int32} {off : Int} {tgt : Nat} (hq : aLk M.2.2.2.2.2.2.1 pc = some (.if_icmp .lt off, 3)) (ht : (pc : Int) + off = (tgt : Int)) (kt : x < y → aX C M k n (tgt, lv, st, lay, S)) (kf : ¬ x < y → aX C M k n (pc + 3, lv, st, lay, S)) : aX C M k n (pc, lv, .int y :: .int x :: st, lay, S) := by
  obtain ⟨g, p, l, e, R, s, m, args, below, meth, c, Q⟩ := C
  obtain ⟨hx, hb, -⟩ := hC
  intro H ls locs hP hz hl hS
  exact lv_icmp_lt hx hb (aDc hT hq) ht (fun h => kt h H ls locs hP hz hl hS) (fun h => kf h H ls locs hP hz hl hS)
theorem aCmp_ge (hC : aCx C M) (hT : aOK M) {x y : Int32} {off : Int} {tgt : Nat} (hq : aLk M.2.2.2.2.2.2.1 pc = some (.if_icmp .ge off, 3)) (ht : (pc : Int) + off = (tgt : Int)) (kt : y ≤ x → aX C M k n (tgt, lv, st, lay, S)) (kf : ¬ y ≤ x → aX C M k n (pc + 3, lv, st, lay, S)) : aX C M k n (pc, lv, .int y :: .int x :: st, lay, S) := by
  obtain ⟨g, p, l, e, R, s, m, args, below, meth, c, Q⟩ := C
  obtain ⟨hx, hb, -⟩ := hC
  intro H ls locs hP hz hl hS
  exact lv_icmp_ge hx hb (aDc hT hq) ht (fun h => kt h H ls locs hP hz hl hS) (fun h => kf h H ls locs hP hz hl hS)
theorem aCmp_gt (hC : aCx C M) (hT : aOK M) {x y : Int32} {off : Int} {tgt : Nat} (hq : aLk M.2.2.2.2.2.2.1 pc = some (.if_icmp .gt off, 3)) (ht : (pc : Int) + off = (tgt : Int)) (kt : y < x → aX C M k n (tgt, lv, st, lay, S)) (kf : ¬ y < x → aX C M k n (pc + 3, lv, st, lay, S)) : aX C M k n (pc, lv, .int y :: .int x :: st, lay, S) := by
  obtain ⟨g, p, l, e, R, s, m, args, below, meth, c, Q⟩ := C
  obtain ⟨hx, hb, -⟩ := hC
  intro H ls locs hP hz hl hS
  exact lv_icmp_gt hx hb (aDc hT hq) ht (fun h => kt h H ls locs hP hz hl hS) (fun h => kf h H ls locs hP hz hl hS)
theorem aCmp_le (hC : aCx C M) (hT : aOK M) {x y : Int32} {off : Int} {tgt : Nat} (hq : aLk M.2.2.2.2.2.2.1 pc = some (.if_icmp .le off, 3)) (ht : (pc : Int) + off = (tgt : Int)) (kt : x ≤ y → aX C M k n (tgt, lv, st, lay, S)) (kf : ¬ x ≤ y → aX C M k n (pc + 3, lv, st, lay, S)) : aX C M k n (pc, lv, .int y :: .int x :: st, lay, S) := by
  obtain ⟨g, p, l, e, R, s, m, args, below, meth, c, Q⟩ := C
  obtain ⟨hx, hb, -⟩ := hC
  intro H ls locs hP hz hl hS
  exact lv_icmp_le hx hb (aDc hT hq) ht (fun h => kt h H ls locs hP hz hl hS) (fun h => kf h H ls locs hP hz hl hS)
theorem aTsw (hC : aCx C M) (hT : aOK M) {x : Int32} {d lo hi : Int} {offs : Array Int} {len : Nat} {off : Int} {tgt : Nat} (hq : aLk M.2.2.2.2.2.2.1 pc = some (.tableswitch d lo hi offs, len)) (v : Int32) (hv : x = v) (h1 : ¬ v.toInt < lo) (h2 : ¬ hi < v.toInt) (ho : offs[(v.toInt - lo).toNat]? = some off) (ht : (pc : Int) + off = (tgt : Int)) (kk : aX C M k n (tgt, lv, st, lay, S)) : aX C M k n (pc, lv, .int x :: st, lay, S) := by
  obtain ⟨g, p, l, e, R, s, m, args, below, meth, c, Q⟩ := C
  obtain ⟨hx, hb, -⟩ := hC
  intro H ls locs hP hz hl hS
  subst hv
  exact lv_tableIn hx hb (aDc hT hq) h1 h2 ho ht (kk H ls locs hP hz hl hS)
theorem aTswD (hC : aCx C M) (hT : aOK M) {x : Int32} {d lo hi : Int} {offs : Array Int} {len : Nat} {tgt : Nat} (hq : aLk M.2.2.2.2.2.2.1 pc = some (.tableswitch d lo hi offs, len)) (h : x.toInt < lo ∨ hi < x.toInt) (ht : (pc : Int) + d = (tgt : Int)) (kk : aX C M k n (tgt, lv, st, lay, S)) : aX C M k n (pc, lv, .int x :: st, lay, S) := by
  obtain ⟨g, p, l, e, R, s, m, args, below, meth, c, Q⟩ := C
  obtain ⟨hx, hb, -⟩ := hC
  intro H ls locs hP hz hl hS
  exact lv_tableOut hx hb (aDc hT hq) h ht (kk H ls locs hP hz hl hS)
theorem aLsw (hC : aCx C M) (hT : aOK M) {x : Int32} {d : Int} {ps : Array (Int × Int)} {len : Nat} {off : Int} {tgt : Nat} (hq : aLk M.2.2.2.2.2.2.1 pc = some (.lookupswitch d ps, len)) (hp : (ps.toList.zip (ps.toList.drop 1)).all (fun (a, next) => a.1 < next.1) = true) (ho : Op.lookupswitch.offset ps.toList d x.toInt = off) (ht : (pc : Int) + off = (tgt : Int)) (kk : aX C M k n (tgt, lv, st, lay, S)) : aX C M k n (pc, lv, .int x :: st, lay, S) := by
  obtain ⟨g, p, l, e, R, s, m, args, below, meth, c, Q⟩ := C
  obtain ⟨hx, hb, -⟩ := hC
  intro H ls locs hP hz hl hS
  exact lv_lookup hx hb (aDc hT hq) hp ho ht (kk H ls locs hP hz hl hS)
/-- a place of an array -/
def aIx (i : Int32) (N : Nat) : Bool := decide (¬ (i < 0 ∨ N ≤ i.toNatClampNeg))
theorem aIx_in {i : Int32} {N : Nat} (h : aIx i N = true) : vp_in i N := by
  have h1 : ¬ (i < 0 ∨ N ≤ i.toNatClampNeg) := by simpa [aIx] using h
  exact h1
theorem aIald (hC : aCx C M) (hT : aOK M) {i : Int32} {q N : Nat} (hq : aLk M.2.2.2.2.2.2.1 pc = some (.iaload, 1)) (hk : q < 1000) (hly : lay[q]? = some (.inl (0, N))) (hin : aIx i N = true) (kk : aX C M k n (pc + 1, lv, .int (S.2.2 q i.toNatClampNeg) :: st, lay, S)) : aX C M k n (pc, lv, .int i :: .ref q :: st, lay, S) := by
  obtain ⟨g, p, l, e, R, s, m, args, below, meth, c, Q⟩ := C
  obtain ⟨hx, hb, hml, hown, hts, hK, hRo, hbs, hini, hlk, hret, hR⟩ := hC
  intro H ls locs hP hz hl hS
  show W p l e R s m args below meth c H locs k n Q (F0 m pc ls (.int i :: aCv g (.ref q) :: st.map (aCv g)))
  rw [aCvR g hk]
  exact va_iald hx hb hK hP q 0 (aWs_at hly) rfl (aIx_in hin) (aDc hT hq) (kk H ls locs hP hz hl hS)
theorem aIaldT (hC : aCx C M) (hT : aOK M) {i : Int32} (hq : aLk M.2.2.2.2.2.2.1 pc = some (.iaload, 1)) (hin : aIx i 7 = true) (kk : aX C M k n (pc + 1, lv, .int (aTENS.getD i.toNatClampNeg 0) :: st, lay, S)) : aX C M k n (pc, lv, .int i :: .ref 1001 :: st, lay, S) := by
  obtain ⟨g, p, l, e, R, s, m, args, below, meth, c, Q⟩ := C
  obtain ⟨hx, hb, hml, hown, hts, hK, hRo, hbs, hini, hlk, hret, hR⟩ := hC
  intro H ls locs hP hz hl hS
  exact va_ti hx hb hRo.1 hS (aIx_in hin) rfl (aDc hT hq) (kk H ls locs hP hz hl hS)
theorem aZald (hC : aCx C M) (hT : aOK M) {i : Int32} {q N : Nat} (hq : aLk M.2.2.2.2.2.2.1 pc = some (.baload, 1)) (hk : q < 1000) (hly : lay[q]? = some (.inl (1, N))) (hin : aIx i N = true) (kk : aX C M k n (pc + 1, lv, .int (S.2.2 q i.toNatClampNeg) :: st, lay, S)) : aX C M k n (pc, lv, .int i :: .ref q :: st, lay, S) := by
  obtain ⟨g, p, l, e, R, s, m, args, below, meth, c, Q⟩ := C
  obtain ⟨hx, hb, hml, hown, hts, hK, hRo, hbs, hini, hlk, hret, hR⟩ := hC
  intro H ls locs hP hz hl hS
  show W p l e R s m args below meth c H locs k n Q (F0 m pc ls (.int i :: aCv g (.ref q) :: st.map (aCv g)))
  rw [aCvR g hk]
  exact va_zald hx hb hK hP q 1 (aWs_at hly) rfl (aIx_in hin) (aDc hT hq) (kk H ls locs hP hz hl hS)
theorem aBald (hC : aCx C M) (hT : aOK M) {i : Int32} {q : Nat} (hq : aLk M.2.2.2.2.2.2.1 pc = some (.baload, 1)) (h1 : 1011 ≤ q) (h2 : q < 1020) (hin : aIx i (aLen.getD (q - 1011) 0) = true) (kk : aX C M k n (pc + 1, lv, .int ((aByt.getD (q - 1011) []).getD i.toNatClampNeg 0) :: st, lay, S)) : aX C M k n (pc, lv, .int i :: .ref q :: st, lay, S) := by
  obtain ⟨g, p, l, e, R, s, m, args, below, meth, c, Q⟩ := C
  obtain ⟨hx, hb, hml, hown, hts, hK, hRo, hbs, hini, hlk, hret, hR⟩ := hC
  intro H ls locs hP hz hl hS
  show W p l e R s m args below meth c H locs k n Q (F0 m pc ls (.int i :: aCv g (.ref q) :: st.map (aCv g)))
  obtain ⟨hb9, ek⟩ := aRefB g q h1 h2
  rw [ek]
  exact va_tb hx hb (hRo.2.2.2.1.1 (q - 1011) hb9).2.2.2 hS (aIx_in hin) rfl (aDc hT hq) (kk H ls locs hP hz hl hS)
theorem aArr_ws {g : aWg} {lay : aLay} {S : aSt} {q t N : Nat} {f : Nat → Int32} (hly : lay[q]? = some (.inl (t, N))) : (aWs g lay S).set q (g.2.2.1 + q, .inl (g.2.1 t, N, .inl f)) = aWs g lay (aA S q f) := by
  have h2 := aWs_set (g := g) (S := S) (S' := aA S q f) (k := q) (o := .inl (t, N)) (aLay_lt hly) (fun a o' ha => aCell_eq rfl rfl (aA_ne S f ha))
  rw [aLay_set hly] at h2
  have e : aCell g (aA S q f) q (.inl (t, N)) = .inl (g.2.1 t, N, .inl f) := by
    unfold aCell
    rw [aA_at]
  rw [e] at h2
  exact h2
theorem aIast (hC : aCx C M) (hT : aOK M) {i x : Int32} {q N : Nat} (hq : aLk M.2.2.2.2.2.2.1 pc = some (.iastore, 1)) (hk : q < 1000) (hly : lay[q]? = some (.inl (0, N))) (hin : aIx i N = true) (kk : aX C M k n (pc + 1, lv, st, lay, aA S q (upd (S.2.2 q) i.toNatClampNeg x))) : aX C M k n (pc, lv, .int x :: .int i :: .ref q :: st, lay, S) := by
  obtain ⟨g, p, l, e, R, s, m, args, below, meth, c, Q⟩ := C
  obtain ⟨hx, hb, hml, hown, hts, hK, hRo, hbs, hini, hlk, hret, hR⟩ := hC
  intro H ls locs hP hz hl hS
  show W p l e R s m args below meth c H locs k n Q (F0 m pc ls (.int x :: .int i :: aCv g (.ref q) :: st.map (aCv g)))
  rw [aCvR g hk]
  refine aIastW hx hb hK hP (aD g lay S) hS q 0 (aWs_at hly) rfl (aIx_in hin) (aDc hT hq) (fun H1 locs1 hP1 hz1 hS1 => ?_)
  rw [aArr_ws hly] at hP1
  exact kk H1 ls locs1 hP1 (hz1.trans hz) hl hS1
theorem aZast (hC : aCx C M) (hT : aOK M) {i x : Int32} {q N : Nat} (hq : aLk M.2.2.2.2.2.2.1 pc = some (.bastore, 1)) (hk : q < 1000) (hly : lay[q]? = some (.inl (1, N))) (hin : aIx i N = true) (hxx : x = 0 ∨ x = 1) (kk : aX C M k n (pc + 1, lv, st, lay, aA S q (upd (S.2.2 q) i.toNatClampNeg x))) : aX C M k n (pc, lv, .int x :: .int i :: .ref q :: st, lay, S) := by
  obtain ⟨g, p, l, e, R, s, m, args, below, meth, c, Q⟩ := C
  obtain ⟨hx, hb, hml, hown, hts, hK, hRo, hbs, hini, hlk, hret, hR⟩ := hC
  intro H ls locs hP hz hl hS
  show W p l e R s m args below meth c H locs k n Q (F0 m pc ls (.int x :: .int i :: aCv g (.ref q) :: st.map (aCv g)))
  rw [aCvR g hk]
  refine aZastW hx hb hK hP (aD g lay S) hS q 1 (aWs_at hly) rfl (aIx_in hin) (by rcases hxx with rfl | rfl <;> decide) (aDc hT hq) (fun H1 locs1 hP1 hz1 hS1 => ?_)
  rw [aArr_ws hly] at hP1
  exact kk H1 ls locs1 hP1 (hz1.trans hz) hl hS1
theorem aLdiv (hC : aCx C M) (hT : aOK M) {x y : Int64} (hq : aLk M.2.2.2.2.2.2.1 pc = some (.ldiv, 1)) (hy : ¬ y = 0) (kk : aX C M k n (pc + 1, lv, .long (x / y) :: st, lay, S)) : aX C M k n (pc, lv, .long y :: .long x :: st, lay, S) := by
  obtain ⟨g, p, l, e, R, s, m, args, below, meth, c, Q⟩ := C
  obtain ⟨hx, hb, -⟩ := hC
  intro H ls locs hP hz hl hS
  exact lv_ldiv hx hb (aDc hT hq) hy (kk H ls locs hP hz hl hS)
theorem aLrem (hC : aCx C M) (hT : aOK M) {x y : Int64} (hq : aLk M.2.2.2.2.2.2.1 pc = some (.lrem, 1)) (hy : ¬ y = 0) (kk : aX C M k n (pc + 1, lv, .long (x - x / y * y) :: st, lay, S)) : aX C M k n (pc, lv, .long y :: .long x :: st, lay, S) := by
  obtain ⟨g, p, l, e, R, s, m, args, below, meth, c, Q⟩ := C
  obtain ⟨hx, hb, -⟩ := hC
  intro H ls locs hP hz hl hS
  exact lv_lrem hx hb (aDc hT hq) hy (kk H ls locs hP hz hl hS)
theorem aIdiv (hC : aCx C M) (hT : aOK M) {x y : Int32} (hq : aLk M.2.2.2.2.2.2.1 pc = some (.idiv, 1)) (hy : ¬ y = 0) (kk : aX C M k n (pc + 1, lv, .int (x / y) :: st, lay, S)) : aX C M k n (pc, lv, .int y :: .int x :: st, lay, S) := by
  obtain ⟨g, p, l, e, R, s, m, args, below, meth, c, Q⟩ := C
  obtain ⟨hx, hb, -⟩ := hC
  intro H ls locs hP hz hl hS
  exact lv_idiv hx hb (aDc hT hq) hy (kk H ls locs hP hz hl hS)
theorem aIrem (hC : aCx C M) (hT : aOK M) {x y : Int32} (hq : aLk M.2.2.2.2.2.2.1 pc = some (.irem, 1)) (hy : ¬ y = 0) (kk : aX C M k n (pc + 1, lv, .int (x - x / y * y) :: st, lay, S)) : aX C M k n (pc, lv, .int y :: .int x :: st, lay, S) := by
  obtain ⟨g, p, l, e, R, s, m, args, below, meth, c, Q⟩ := C
  obtain ⟨hx, hb, -⟩ := hC
  intro H ls locs hP hz hl hS
  exact lv_irem hx hb (aDc hT hq) hy (kk H ls locs hP hz hl hS)
end AB
/-! results -/
def aQc (g : aWg) (r : Option Value) (lay : aLay) (S : aSt) : Array Value → State → Outcome → State → Prop := fun _ st o t => o = .returned (r.map (aCv g)) ∧ va_P g.1 vwCl (aWs g lay S) t.heap ∧ t.heap.size = g.2.2.1 + lay.length ∧ va_F (aAg g) st t
def aFin (C : aC) (r : Option Value) (lay : aLay) (S : aSt) (k n : Nat) : Prop := match C with
  | (g, _p, _l, _e, _R, s, _m, args, below, _meth, _c, Q) => Q = MQ below (aQc g r lay S) args s k n (aAg g)
section AR
variable {C : aC} {M : aM} {k n pc : Nat} {lv : List (Nat × Value)} {lay : aLay} {S : aSt}
theorem aRetV (hC : aCx C M) (hT : aOK M) (hF : aFin C none lay S k n) (hr : M.2.2.2.2.1 = none) (hq : aLk M.2.2.2.2.2.2.1 pc = some (.return_, 1)) : aX C M k n (pc, lv, [], lay, S) := by
  obtain ⟨g, p, l, e, R, s, m, args, below, meth, c, Q⟩ := C
  obtain ⟨hx, hb, hml, hown, hts, hK, hRo, hbs, hini, hlk, hret, hR⟩ := hC
  intro H ls locs hP hz hl hS
  cases hF
  exact W.vret hx hb (hret.trans hr) (fun t ht hW => ⟨rfl, by rw [ht]; exact hP, by rw [ht]; exact hz, hS.F ht⟩) hS.2.2 (aDc hT hq) hlk
theorem aRetI (hC : aCx C M) (hT : aOK M) {v : Int32} (hF : aFin C (some (.int v)) lay S k n) (hr : M.2.2.2.2.1 = some .int) (hq : aLk M.2.2.2.2.2.2.1 pc = some (.ireturn, 1)) : aX C M k n (pc, lv, [.int v], lay, S) := by
  obtain ⟨g, p, l, e, R, s, m, args, below, meth, c, Q⟩ := C
  obtain ⟨hx, hb, hml, hown, hts, hK, hRo, hbs, hini, hlk, hret, hR⟩ := hC
  intro H ls locs hP hz hl hS
  cases hF
  exact W.iret hx hb (hret.trans hr) (fun t ht hW => ⟨rfl, by rw [ht]; exact hP, by rw [ht]; exact hz, hS.F ht⟩) hS.2.2 (aDc hT hq) hlk
theorem aRetL (hC : aCx C M) (hT : aOK M) {v : Int64} (hF : aFin C (some (.long v)) lay S k n) (hr : M.2.2.2.2.1 = some .long) (hq : aLk M.2.2.2.2.2.2.1 pc = some (.lreturn, 1)) : aX C M k n (pc, lv, [.long v], lay, S) := by
  obtain ⟨g, p, l, e, R, s, m, args, below, meth, c, Q⟩ := C
  obtain ⟨hx, hb, hml, hown, hts, hK, hRo, hbs, hini, hlk, hret, hR⟩ := hC
  intro H ls locs hP hz hl hS
  cases hF
  exact W.lret hx hb (hret.trans hr) (fun t ht hW => ⟨rfl, by rw [ht]; exact hP, by rw [ht]; exact hz, hS.F ht⟩) hS.2.2 (aDc hT hq) hlk
theorem aRetZ (hC : aCx C M) (hT : aOK M) {v : Int32} {ty : FieldType} (hF : aFin C (some (.int v)) lay S k n) (hr : M.2.2.2.2.1 = some ty) (hn : narrow ty (.int v) = .int v) (hq : aLk M.2.2.2.2.2.2.1 pc = some (.ireturn, 1)) : aX C M k n (pc, lv, [.int v], lay, S) := by
  obtain ⟨g, p, l, e, R, s, m, args, below, meth, c, Q⟩ := C
  obtain ⟨hx, hb, hml, hown, hts, hK, hRo, hbs, hini, hlk, hret, hR⟩ := hC
  intro H ls locs hP hz hl hS
  cases hF
  exact W.zret hx hb (hret.trans hr) hn (fun t ht hW => ⟨rfl, by rw [ht]; exact hP, by rw [ht]; exact hz, hS.F ht⟩) hS.2.2 (aDc hT hq) hlk
theorem aRetB (hC : aCx C M) (hT : aOK M) {v : Int32} (hF : aFin C (some (.int v)) lay S k n) (hr : M.2.2.2.2.1 = some .boolean) (hv : v = 0 ∨ v = 1) (hq : aLk M.2.2.2.2.2.2.1 pc = some (.ireturn, 1)) : aX C M k n (pc, lv, [.int v], lay, S) :=
  aRetZ hC hT hF hr (by rcases hv with rfl | rfl <;> decide) hq
end AR
/-! a contract: from layout and contents, with these arguments, the method returns this and leaves these -/
def aPc (g : aWg) (as : List Value) (lay : aLay) (S : aSt) : Array Value → State → Prop := va_Pc (as.map (aCv g)) (fun U => va_P g.1 vwCl (aWs g lay S) U.heap ∧ U.heap.size = g.2.2.1 + lay.length ∧ va_K g.1 vwCl (aTy g) U ∧ aRo g U U.heap)
def aJ (l : Launch) (g : aWg) (y : MethodName) (M : aM) (as : List Value) (lay : aLay) (S : aSt) (r : Option Value) (lay' : aLay) (S' : aSt) (k n : Nat) : Prop :=
  Met l y (Cond.code y M.2.1 M.2.2.1 M.2.2.2.2.1 :: aBase) M.2.2.2.2.2.1 (aPc g as lay S) (aQc g r lay' S') k n (aAg g)
theorem aCvArgs (g : aWg) (as : List Value) : ∀ i : Nat, lv_args i (as.map (aCv g)) = (lv_args i as).map (aCq g) := by
  induction as with
  | nil => intro i; rfl
  | cons v as ih =>
    intro i
    simp only [List.map_cons, lv_args, aCv_cat, ih]
    rfl
theorem aSlLen (g : aWg) (as : List Value) : (lg_sl (as.map (aCv g))).length = (lg_sl as).length := by
  induction as with
  | nil => rfl
  | cons v as ih =>
    simp only [lg_sl, List.map_cons, List.flatMap_cons, List.length_append, aCv_cat] at ih ⊢
    rw [ih]
    split <;> rfl
def aSz (C : aC) (len : Nat) : Prop := C.2.2.2.2.2.1.heap.size = C.1.2.2.1 + len
theorem aMetOf {l : Launch} {y : MethodName} {ws ws' : List Cond} {rm : Room} {Pc : Array Value → State → Prop} {Qc : Array Value → State → Outcome → State → Prop} {mc ms : Nat} {free : Addr → Prop} {cc : ByteArray} {maxL : Nat} {ret : Option FieldType}
    (hy : plainFor y = true) (hw : ws = Cond.code y cc maxL ret :: ws')
    (body : ∀ p e s m args below meth c s₁, BodyLoose p l y (headSpec ws rm) cc maxL ret e s m args below meth c s₁ → c.maxLocals = maxL → Pc args s →
      W p l e (headSpec ws rm).room s m args below meth c s.heap [] 0 0 (MQ below Qc args s mc ms free) (entryFrame m args maxL)) : Met l y ws rm Pc Qc mc ms free := by
  refine MetFree.of_bodySF (code := cc) (maxLocals := maxL) (ret := ret) hy ?_ ?_
  · intro args s m h hn
    obtain ⟨meth, c, h1, h2, h3, h4, h5, h6, -, -⟩ := Cond.code_spec hn (atoms_spec (ws := ws) h _ (by rw [hw]; exact List.mem_cons_self))
    exact ⟨meth, c, h1, h2, h3, h4, h5, h6⟩
  · intro p e s m args below meth c s₁ B hml hP _
    have hh0 : s₁.heap = s.heap := by rw [B.state]; rfl
    obtain ⟨t, a1, o, b1, b2, b3⟩ := body p e s m args below meth c s₁ B hml hP s₁ hh0 (Stand.of_body B)
    exact ⟨t, o, a1, b1, b2, ⟨b3.1, b3.2⟩⟩
theorem aJ_of {l : Launch} {g : aWg} {y : MethodName} {M : aM} {as : List Value} {lay lay' : aLay} {S S' : aSt} {r : Option Value} {k n : Nat} (hy : plainFor y = true) (hMy : y.cls = M.1) (hsl : (lg_sl as).length ≤ M.2.2.1) (hini : M.2.2.2.1 = true → y.name = "<init>")
    (body : ∀ C : aC, C.1 = g → C.2.2.1 = l → aCx C M → aSz C lay.length → aFin C r lay' S' k n → aX C M 0 0 (0, lv_args 0 as, [], lay, S)) : aJ l g y M as lay S r lay' S' k n := by
  refine aMetOf (cc := M.2.1) (maxL := M.2.2.1) (ret := M.2.2.2.2.1) hy rfl ?_
  intro p e s m args below meth c s₁ B hml hv
  obtain ⟨rfl, hP, hz, hK, hRo⟩ := hv
  have hts0 := atoms_spec (ws := Cond.code y M.2.1 M.2.2.1 M.2.2.2.2.1 :: aBase) B.pre
  have hts : ∀ w ∈ aBase, w.before (as.map (aCv g)).toArray s = true := fun w hw => hts0 w (List.mem_cons_of_mem _ hw)
  have hown : s.vm.findClass M.1 = some m.cls := by rw [← hMy]; exact findClass_of_methodNamed B.named
  have hin : meth.name = y.name := (name_of_methodNamed B.named B.method).1
  have hl := lv_entry (as.map (aCv g)) (n := M.2.2.1) (by rw [aSlLen]; exact hsl)
  rw [lg_entry_eq]
  rw [aCvArgs] at hl
  exact body (g, p, l, e, M.2.2.2.2.2.1, s, m, (as.map (aCv g)).toArray, below, meth, c, _) rfl rfl ⟨B.exec, B.bytes, hml, hown, hts, hK, hRo, by rw [hz]; exact Nat.le_add_right _ _, fun h => hin.trans (hini h), B.notSynchronized, B.returns, rfl⟩ hz rfl s.heap _ [] hP hz hl va_S.rf
/-! calls -/
theorem aGoodIn {y : MethodName} {cc : ByteArray} {nL : Nat} {ret : Option FieldType} (h : Cond.code y cc nL ret ∈ aBase) : GoodIn aBase (Cond.code y cc nL ret :: aBase) := by
  intro w hw
  have hm : w ∈ aBase := by
    rcases List.mem_cons.mp hw with rfl | hw
    · exact h
    · exact hw
  exact ⟨hm, good_of_word (List.mem_filter.mp hm).2⟩
/-- what the tables say of a call: places of methodLink, initialized, code; the callee's arguments; room -/
def aCO (M M' : aM) (idx : Nat) (y : MethodName) (p1 p2 p3 na : Nat) : Prop :=
  lw_tbl[p1]? = some (.methodLink M.1 idx y) ∧ lw_tbl[p2]? = some (.initialized y.cls) ∧ lw_tbl[p3]? = some (.code y M'.2.1 M'.2.2.1 M'.2.2.2.2.1) ∧
  (y.cls ≠ "java/lang/invoke/MethodHandle" ∧ y.cls ≠ "java/lang/invoke/VarHandle" ∧ (parseMethodDescriptor y.desc).map (fun d => d.parameters.length) = some na) ∧
  (M'.2.2.2.2.2.1.frames + 1 ≤ M.2.2.2.2.2.1.frames ∧ 8 + (M'.2.2.1 + 11) + M'.2.2.2.2.2.1.locals ≤ M.2.2.2.2.2.1.locals)
theorem aBlind (g : aWg) (as : List Value) (lay : aLay) (S : aSt) : FrameBlind (aPc g as lay S) := by
  intro a U fr mk h
  obtain ⟨q, hP, hz, hK, hRo⟩ := h
  exact ⟨q, hP, hz, va_K.moved (u := U) (U := U.calling fr mk a) (Vm.Alike.refl U.vm) hK, hRo.same rfl⟩
section AC
variable {C : aC} {M M' : aM} {k n k' n' pc idx p1 p2 p3 na : Nat} {y : MethodName} {lv : List (Nat × Value)} {lay lay' : aLay} {S S' : aSt} {r : Option Value} {rest As : List Value} {b : Nat}
theorem aFromRun {g : aWg} {p : Program} {l : Launch} {e : Env} {R : Room} {s : State} {m : MethodId} {args : Array Value} {below : List Frame} {meth : Method} {c : Code} {Q : State → Prop} {H : Heap} {ls : Array Slot} {locs : List Loc} {st : List Value}
    (hr : va_Run p l e R s m args below meth c H locs k n k' n' (F0 m pc ls st) (rest.map (aCv g)) (aQc g r lay' S' #[]) (aAg g)) (hS : va_S (aAg g) s.heap H locs) (hl : lv_has ls M.2.2.1 (lv.map (aCq g)))
    (kk : aX (g, p, l, e, R, s, m, args, below, meth, c, Q) M (k + k') (n + n') (pc + 3, lv, r.toList ++ rest, lay', S')) : W p l e R s m args below meth c H locs k n Q (F0 m pc ls st) := by
  intro T hT X
  obtain ⟨v, st₀, t, T', L, h0, X', hL, e1, e2, ⟨hv, hP, hz, hF⟩, hst⟩ := hr T hT X
  cases hv
  obtain ⟨hz0, hk0⟩ := hF
  rw [h0] at hz0 hk0
  have hS1 : va_S (aAg g) s.heap T'.heap (locs ++ L) := ⟨Nat.le_trans hS.1 (by rw [e1]; exact hz0), fun q h1 h2 => by rw [e1, hk0 q (Nat.lt_of_lt_of_le h1 hS.1) h2]; exact hS.2.1 q h1 h2, fun q hq => by
      rcases List.mem_append.mp hq with h | h
      · exact hS.2.2 q h
      · exact hL q h⟩
  have k1 := kk T'.heap ls (locs ++ L) (by rw [e1]; exact hP) (by rw [e1]; exact hz) hl hS1
  have est : (r.toList ++ rest).map (aCv g) = (r.map (aCv g)).toList ++ rest.map (aCv g) := by cases r <;> rfl
  dsimp only at k1
  rw [est] at k1
  obtain ⟨t2, a1, b1⟩ := k1 T' rfl X'
  exact ⟨t2, hst t2 a1, b1⟩
theorem aCat (g : aWg) (rest : List Value) : ((rest.map (aCv g)).map fun v => v.category) = rest.map fun v => v.category := by
  simp [List.map_map, Function.comp_def, aCv_cat]
/-- a static method of any class -/
theorem aCallS (hC : aCx C M) (hT : aOK M) (hq : aLk M.2.2.2.2.2.2.1 pc = some (.invokestatic idx, 3)) (hO : aCO M M' idx y p1 p2 p3 na) (p4 : Nat) (h4 : lw_tbl[p4]? = some (.static y)) (hn : As.length = na) (hrs : (rest.map fun v => v.category).sum ≤ 8)
    (hrm : M'.2.2.2.2.2.1.cells = k' ∧ M'.2.2.2.2.2.1.slots = n' ∧ k + k' ≤ M.2.2.2.2.2.1.cells ∧ n + n' ≤ M.2.2.2.2.2.1.slots)
    (hJ : aJ C.2.2.1 C.1 y M' As lay S r lay' S' k' n') (kk : aX C M (k + k') (n + n') (pc + 3, lv, r.toList ++ rest, lay', S')) : aX C M k n (pc, lv, As.reverse ++ rest, lay, S) := by
  obtain ⟨g, p, l, e, R, s, m, args, below, meth, c, Q⟩ := C
  obtain ⟨hx, hb, hml, hown, hts, hK, hRo, hbs, hini, hlk, hret, hR⟩ := hC
  obtain ⟨o1, o2, o3, o4, o5⟩ := hO
  intro H ls locs hP hz hl hS
  subst hR
  have hcode := aTb o3 rfl
  have hst : (As.reverse ++ rest).map (aCv g) = (As.map (aCv g)).reverse ++ rest.map (aCv g) := by rw [List.map_append, List.map_reverse]
  dsimp only
  rw [hst]
  have cb := callB_of (R := M.2.2.2.2.2.1) (mc := k') (ms := n') na hts (aGoodIn hcode) rfl hrm.1 hrm.2.1 (aTw hts o2) (aTw hts o1) o4 o5
  refine aFromRun (M := M) (lay' := lay') (S' := S') (va_runS (As := As.map (aCv g)) (rest := rest.map (aCv g)) ⟨hx, hb, hml, hown, hts⟩ hJ ⟨cb, aTw hts h4⟩ ⟨aBlind g As lay S, fun U hU hW => ⟨rfl, by rw [hU]; exact hP, by rw [hU]; exact hz, va_K.moved hW.alike hK, by rw [hU]; exact hRo.on hS hW⟩⟩ rfl (by rw [List.length_map]; exact hn) hl.1 rfl (lv_room (by rw [aCat]; exact hrs)) (aDc hT hq) ⟨hrm.2.2.1, hrm.2.2.2⟩) hS hl kk
/-- an instance method, private or not, of an object of the run's -/
theorem aCallV (hC : aCx C M) (hT : aOK M) (hq : aLk M.2.2.2.2.2.2.1 pc = some (.invokevirtual idx, 3)) (hO : aCO M M' idx y p1 p2 p3 na) (p4 p5 : Nat) (h4 : lw_tbl[p4]? = some (.instanceMethod y) ∧ lw_tbl[p5]? = some (.selects y.cls y y)) {ci : Nat} {fs : List (Nat × Nat)} (hb1 : b < 1000) (hrc : lay[b]? = some (.inr (ci, fs))) (hcl : (vwCl[ci]?).map (fun q => q.1) = some y.cls) (hn : As.length = na) (hrs : (rest.map fun v => v.category).sum ≤ 8)
    (hrm : M'.2.2.2.2.2.1.cells = k' ∧ M'.2.2.2.2.2.1.slots = n' ∧ k + k' ≤ M.2.2.2.2.2.1.cells ∧ n + n' ≤ M.2.2.2.2.2.1.slots)
    (hJ : aJ C.2.2.1 C.1 y M' (.ref b :: As) lay S r lay' S' k' n') (kk : aX C M (k + k') (n + n') (pc + 3, lv, r.toList ++ rest, lay', S')) : aX C M k n (pc, lv, As.reverse ++ .ref b :: rest, lay, S) := by
  obtain ⟨g, p, l, e, R, s, m, args, below, meth, c, Q⟩ := C
  obtain ⟨hx, hb, hml, hown, hts, hK, hRo, hbs, hini, hlk, hret, hR⟩ := hC
  obtain ⟨o1, o2, o3, o4, o5⟩ := hO
  intro H ls locs hP hz hl hS
  subst hR
  have hcode := aTb o3 rfl
  have hst : (As.reverse ++ .ref b :: rest).map (aCv g) = (As.map (aCv g)).reverse ++ .ref (g.2.2.1 + b) :: rest.map (aCv g) := by rw [List.map_append, List.map_reverse, List.map_cons, aCvR g hb1]
  dsimp only
  rw [hst]
  obtain ⟨⟨cn, cT, cN⟩, hcq, hce⟩ : ∃ q, vwCl[ci]? = some q ∧ q.1 = y.cls := by
    cases hq2 : vwCl[ci]? with
    | none => rw [hq2] at hcl; cases hcl
    | some q => rw [hq2] at hcl; exact ⟨q, rfl, Option.some.inj hcl⟩
  have hrv := va_recv hK hP hcq (aWs_at hrc)
  rw [show ((cn, cT, cN) : vw_C).1 = y.cls from hce] at hrv
  have cb := callB_of (R := M.2.2.2.2.2.1) (mc := k') (ms := n') na hts (aGoodIn hcode) rfl hrm.1 hrm.2.1 (aTw hts o2) (aTw hts o1) o4 o5
  have hpc : ∀ U : State, U.heap = H → s.WarmedH U.vm → aPc g (.ref b :: As) lay S (Value.ref (g.2.2.1 + b) :: As.map (aCv g)).toArray U := fun U hU hW => ⟨by rw [List.map_cons, aCvR g hb1], by rw [hU]; exact hP, by rw [hU]; exact hz, va_K.moved hW.alike hK, by rw [hU]; exact hRo.on hS hW⟩
  refine aFromRun (M := M) (lay' := lay') (S' := S') (va_runV (As := As.map (aCv g)) (rest := rest.map (aCv g)) ⟨hx, hb, hml, hown, hts⟩ hJ ⟨cb, aTw hts h4.1, aTw hts h4.2⟩ ⟨aBlind g _ lay S, hrv, hpc⟩ rfl (by rw [List.length_map]; exact hn) hl.1 rfl (lv_room (by rw [aCat]; exact hrs)) (aDc hT hq) ⟨hrm.2.2.1, hrm.2.2.2⟩) hS hl kk
/-- an instance method of one of the nine words -/
theorem aCallW (hC : aCx C M) (hT : aOK M) (hq : aLk M.2.2.2.2.2.2.1 pc = some (.invokevirtual idx, 3)) (hO : aCO M M' idx y p1 p2 p3 na) (p4 p5 : Nat) (h4 : lw_tbl[p4]? = some (.instanceMethod y) ∧ lw_tbl[p5]? = some (.selects y.cls y y)) (hb1 : 1002 ≤ b ∧ b < 1011) (hcl : y.cls = "java/lang/String") (hn : As.length = na) (hrs : (rest.map fun v => v.category).sum ≤ 8)
    (hrm : M'.2.2.2.2.2.1.cells = k' ∧ M'.2.2.2.2.2.1.slots = n' ∧ k + k' ≤ M.2.2.2.2.2.1.cells ∧ n + n' ≤ M.2.2.2.2.2.1.slots)
    (hJ : aJ C.2.2.1 C.1 y M' (.ref b :: As) lay S r lay' S' k' n') (kk : aX C M (k + k') (n + n') (pc + 3, lv, r.toList ++ rest, lay', S')) : aX C M k n (pc, lv, As.reverse ++ .ref b :: rest, lay, S) := by
  obtain ⟨g, p, l, e, R, s, m, args, below, meth, c, Q⟩ := C
  obtain ⟨hx, hb, hml, hown, hts, hK, hRo, hbs, hini, hlk, hret, hR⟩ := hC
  obtain ⟨o1, o2, o3, o4, o5⟩ := hO
  intro H ls locs hP hz hl hS
  subst hR
  have hcode := aTb o3 rfl
  obtain ⟨hb9, ek, -⟩ := aRefS g b hb1.1 hb1.2
  have hst : (As.reverse ++ .ref b :: rest).map (aCv g) = (As.map (aCv g)).reverse ++ .ref (g.2.2.2 (2 + (b - 1002))) :: rest.map (aCv g) := by rw [List.map_append, List.map_reverse, List.map_cons, ek]
  dsimp only
  rw [hst]
  have hrv := vk_recv hRo.2.2.2.1 hb9 hS
  rw [← hcl] at hrv
  have cb := callB_of (R := M.2.2.2.2.2.1) (mc := k') (ms := n') na hts (aGoodIn hcode) rfl hrm.1 hrm.2.1 (aTw hts o2) (aTw hts o1) o4 o5
  have hpc : ∀ U : State, U.heap = H → s.WarmedH U.vm → aPc g (.ref b :: As) lay S (Value.ref (g.2.2.2 (2 + (b - 1002))) :: As.map (aCv g)).toArray U := fun U hU hW => ⟨by rw [List.map_cons, ek], by rw [hU]; exact hP, by rw [hU]; exact hz, va_K.moved hW.alike hK, by rw [hU]; exact hRo.on hS hW⟩
  refine aFromRun (M := M) (lay' := lay') (S' := S') (va_runV (As := As.map (aCv g)) (rest := rest.map (aCv g)) ⟨hx, hb, hml, hown, hts⟩ hJ ⟨cb, aTw hts h4.1, aTw hts h4.2⟩ ⟨aBlind g _ lay S, hrv, hpc⟩ rfl (by rw [List.length_map]; exact hn) hl.1 rfl (lv_room (by rw [aCat]; exact hrs)) (aDc hT hq) ⟨hrm.2.2.1, hrm.2.2.2⟩) hS hl kk
/-- a constructor -/
theorem aCallI (hC : aCx C M) (hT : aOK M) (hq : aLk M.2.2.2.2.2.2.1 pc = some (.invokespecial idx, 3)) (hO : aCO M M' idx y p1 p2 p3 na) (p4 : Nat) (h4 : lw_tbl[p4]? = some (.instanceMethod y)) (hyn : y.name = "<init>") (hret2 : M'.2.2.2.2.1 = none) (hb1 : b < 1000) (hn : As.length = na) (hrs : (rest.map fun v => v.category).sum ≤ 8)
    (hrm : M'.2.2.2.2.2.1.cells = k' ∧ M'.2.2.2.2.2.1.slots = n' ∧ k + k' ≤ M.2.2.2.2.2.1.cells ∧ n + n' ≤ M.2.2.2.2.2.1.slots)
    (hJ : aJ C.2.2.1 C.1 y M' (.ref b :: As) lay S r lay' S' k' n') (kk : aX C M (k + k') (n + n') (pc + 3, lv, r.toList ++ rest, lay', S')) : aX C M k n (pc, lv, As.reverse ++ .ref b :: rest, lay, S) := by
  obtain ⟨g, p, l, e, R, s, m, args, below, meth, c, Q⟩ := C
  obtain ⟨hx, hb, hml, hown, hts, hK, hRo, hbs, hini, hlk, hret, hR⟩ := hC
  obtain ⟨o1, o2, o3, o4, o5⟩ := hO
  intro H ls locs hP hz hl hS
  subst hR
  rw [hret2] at o3
  unfold aJ at hJ
  rw [hret2] at hJ
  have hcode := aTb o3 rfl
  have hst : (As.reverse ++ .ref b :: rest).map (aCv g) = (As.map (aCv g)).reverse ++ .ref (g.2.2.1 + b) :: rest.map (aCv g) := by rw [List.map_append, List.map_reverse, List.map_cons, aCvR g hb1]
  dsimp only
  rw [hst]
  have cb := callB_of (R := M.2.2.2.2.2.1) (mc := k') (ms := n') na hts (aGoodIn hcode) rfl hrm.1 hrm.2.1 (aTw hts o2) (aTw hts o1) o4 o5
  have hpc : ∀ U : State, U.heap = H → s.WarmedH U.vm → aPc g (.ref b :: As) lay S (Value.ref (g.2.2.1 + b) :: As.map (aCv g)).toArray U := fun U hU hW => ⟨by rw [List.map_cons, aCvR g hb1], by rw [hU]; exact hP, by rw [hU]; exact hz, va_K.moved hW.alike hK, by rw [hU]; exact hRo.on hS hW⟩
  refine aFromRun (M := M) (lay' := lay') (S' := S') (va_runI (As := As.map (aCv g)) (rest := rest.map (aCv g)) ⟨hx, hb, hml, hown, hts⟩ hJ ⟨cb, hyn, aTw hts h4⟩ ⟨aBlind g _ lay S, hpc⟩ rfl (by rw [List.length_map]; exact hn) hl.1 rfl (lv_room (by rw [aCat]; exact hrs)) (aDc hT hq) ⟨hrm.2.2.1, hrm.2.2.2⟩) hS hl kk
end AC
/-! new cells -/
def aKd (ty : FieldType) : Nat × Nat := match ty with
  | .long => (2, 0)
  | .object _ => (0, 0)
  | .array _ => (0, 0)
  | _ => (1, 0)
def aFt (T : u_T) (j : Nat) : FieldType := (parseFieldDescriptor (T j).2.2.1).getD .int
def aKinds (T : u_T) (N : Nat) : List (Nat × Nat) := (List.range N).map (fun j => aKd (aFt T j))
theorem aClr_ne (S : aSt) {k a : Nat} (h : a ≠ k) : (aClr S k).1 a = S.1 a ∧ (aClr S k).2.1 a = S.2.1 a ∧ (aClr S k).2.2 a = S.2.2 a := by simp [aClr, h]
theorem aWs_push (g : aWg) (lay : aLay) (S : aSt) (o : aSh) : aWs g (lay ++ [o]) (aClr S lay.length) = aWs g lay S ++ [(g.2.2.1 + lay.length, aCell g (aClr S lay.length) lay.length o)] := by
  apply List.ext_getElem?
  intro i
  rw [aWs_get]
  by_cases hi : i < lay.length
  · rw [List.getElem?_append_left hi, List.getElem?_append_left (by rw [aWs_len]; exact hi), aWs_get]
    obtain ⟨h1, h2, h3⟩ := aClr_ne S (k := lay.length) (a := i) (by omega)
    cases lay[i]? with
    | none => rfl
    | some o' => simp only [Option.map_some, aCell_eq (g := g) (o := o') h1 h2 h3]
  · rw [List.getElem?_append_right (by omega), List.getElem?_append_right (by rw [aWs_len]; omega), aWs_len]
    by_cases hj : i = lay.length
    · subst hj
      simp
    · have h0 : i - lay.length = (i - lay.length - 1) + 1 := by omega
      rw [h0]
      simp
theorem aP_push {g : aWg} {lay : aLay} {S : aSt} {H H1 : Heap} {o : aSh} (hP : va_P g.1 vwCl (aWs g lay S) H) (hz : H.size = g.2.2.1 + lay.length) (hk : ∀ q, q < H.size → H1[q]? = H[q]?) (hn : va_at g.1 vwCl (g.2.2.1 + lay.length, aCell g (aClr S lay.length) lay.length o) H1) : va_P g.1 vwCl (aWs g (lay ++ [o]) (aClr S lay.length)) H1 := by
  rw [aWs_push]
  refine va_P.app (hP.kept (fun k x hx => hk x.1 (hP k x hx).lt)) (fun k x hx => ?_)
  have hz1 : k < 1 := (List.getElem?_eq_some_iff.mp hx).1
  rw [show k = 0 by omega] at hx
  cases hx
  exact hn
section AN
variable {C : aC} {M : aM} {k n pc idx p1 p2 p3 : Nat} {lv : List (Nat × Value)} {st : List Value} {lay : aLay} {S : aSt}
theorem aNew (hC : aCx C M) (hT : aOK M) (hq : aLk M.2.2.2.2.2.2.1 pc = some (.new idx, 3)) {ci : Nat} {cn : String} {T : u_T} {N : Nat} (hc : vwCl[ci]? = some (cn, T, N)) (h1 : lw_tbl[p1]? = some (.classLink M.1 idx cn)) (h2 : lw_tbl[p2]? = some (.instantiable cn N)) (h3 : lw_tbl[p3]? = some (.initialized cn))
    (hf : (List.range N).all (fun j => defaultValue (aFt T j) == aFv ((fun _ _ => 0, fun _ _ => 0, fun _ _ => 0) : aSt) 0 j (aKd (aFt T j))) = true) (hrm : k + 1 ≤ M.2.2.2.2.2.1.cells ∧ n + N ≤ M.2.2.2.2.2.1.slots) {len : Nat} (hll : lay.length = len) (hlen : len < 1000) {kinds : List (Nat × Nat)} (hkd : aKinds T N = kinds) {lay' : aLay} (hly : lay ++ [.inr (ci, kinds)] = lay')
    (kk : aX C M (k + 1) (n + N) (pc + 3, lv, .ref len :: st, lay', aClr S len)) : aX C M k n (pc, lv, st, lay, S) := by
  obtain ⟨g, p, l, e, R, s, m, args, below, meth, c, Q⟩ := C
  subst hly; subst hkd; subst hll
  obtain ⟨hx, hb, hml, hown, hts, hK, hRo, hbs, hini, hlk, hret, hR⟩ := hC
  intro H ls locs hP hz hl hS
  subst hR
  have hKn := hK.1 ci _ hc
  have hcm := aCls _ (List.mem_of_getElem? hc)
  refine W.newcK hx hb hown (aTw hts h1) (aTw hts h2) (aTw hts h3) rfl (aDc hT hq) hrm.1 hrm.2 hKn.2.1 hz fun H1 kC hkC e1 z1 o1 => ?_
  have hP1 : va_P g.1 vwCl (aWs g (lay ++ [.inr (ci, aKinds T N)]) (aClr S lay.length)) H1 := by
    refine aP_push hP hz (fun q hq => o1 q (by rw [← hz]; exact hq)) ⟨_, hc, (u_born (aFt T) hts hcm.1 hKn hkC e1 hcm.2.1).to (fun j hj => ?_)⟩
    have hf1 := List.all_eq_true.mp hf j (List.mem_range.mpr hj)
    have hf2 : defaultValue (aFt T j) = aFv ((fun _ _ => 0, fun _ _ => 0, fun _ _ => 0) : aSt) 0 j (aKd (aFt T j)) := by simpa using hf1
    have hg1 : (aKinds T N)[j]? = some (aKd (aFt T j)) := by simp [aKinds, hj]
    have hg2 := aObj_get (g := g) (S := aClr S lay.length) (k := lay.length) hg1
    show _ = vp_V _ j
    unfold vp_V
    rw [List.getD_eq_getElem?_getD]
    rw [hg2, hf2]
    generalize hkd : aKd (aFt T j) = kd
    cases hty : aFt T j <;> rw [hty] at hkd <;> subst hkd <;> simp [aKd, aFv, aCv, aClr]
  have k1 := kk H1 ls locs hP1 (by rw [z1]; simp [Nat.add_assoc]) hl ⟨Nat.le_trans hS.1 (by rw [z1, hz]; exact Nat.le_succ _), fun x h4 h5 => (o1 x (by have h6 := hS.1; rw [hz] at h6; exact Nat.lt_of_lt_of_le h4 h6)).trans (hS.2.1 x h4 h5), hS.2.2⟩
  dsimp only at k1
  rw [List.map_cons, aCvR g hlen] at k1
  exact k1
theorem aNewA (hC : aCx C M) (hT : aOK M) {at_ : ArrayType} (hq : aLk M.2.2.2.2.2.2.1 pc = some (.newarray at_, 2)) (h1 : lw_tbl[p1]? = some (.arrayClass (newarray.typeOf at_))) (tag : Nat) (htag : (tag = 0 ∧ at_ = .int) ∨ (tag = 1 ∧ at_ = .boolean)) {v : Int32} {N : Nat} (hv : ¬ v < 0) (hN : v.toNatClampNeg = N) (hby : N * componentBytes (newarray.typeOf at_) ≤ 536870912) (hrm : k + 1 ≤ M.2.2.2.2.2.1.cells ∧ n + N ≤ M.2.2.2.2.2.1.slots) {len : Nat} (hll : lay.length = len) (hlen : len < 1000) {lay' : aLay} (hly : lay ++ [.inl (tag, N)] = lay')
    (kk : aX C M (k + 1) (n + N) (pc + 2, lv, .ref len :: st, lay', aClr S len)) : aX C M k n (pc, lv, .int v :: st, lay, S) := by
  obtain ⟨g, p, l, e, R, s, m, args, below, meth, c, Q⟩ := C
  subst hly; subst hll
  obtain ⟨hx, hb, hml, hown, hts, hK, hRo, hbs, hini, hlk, hret, hR⟩ := hC
  intro H ls locs hP hz hl hS
  subst hR
  refine va_newaK hx hb (aTw hts h1 (by rcases htag with ⟨-, rfl⟩ | ⟨-, rfl⟩ <;> rfl)) rfl (aDc hT hq) rfl hv hN hby hrm.1 hrm.2 hz fun H1 cA e1 z1 o1 hAr hNm => ?_
  have hcA : cA = g.2.1 tag ∧ defaultValue (newarray.typeOf at_) = .int 0 := by
    rcases htag with ⟨rfl, rfl⟩ | ⟨rfl, rfl⟩
    · exact ⟨Option.some.inj (hNm.symm.trans (hK.2 0 (g.2.1 0, .int) rfl).2), rfl⟩
    · exact ⟨Option.some.inj (hNm.symm.trans (hK.2 1 (g.2.1 1, .boolean) rfl).2), rfl⟩
  obtain ⟨hcA, hdf⟩ := hcA
  have hP1 : va_P g.1 vwCl (aWs g (lay ++ [.inl (tag, N)]) (aClr S lay.length)) H1 := by
    refine aP_push hP hz (fun q hq => o1 q (by rw [← hz]; exact hq)) ?_
    show H1[g.2.2.1 + lay.length]? = some (vp_cell (g.2.1 tag) (N, .inl ((aClr S lay.length).2.2 lay.length)))
    rw [e1, vp_cell_i, hcA, hdf]
    simp [aClr]
  have k1 := kk H1 ls locs hP1 (by rw [z1]; simp [Nat.add_assoc]) hl ⟨Nat.le_trans hS.1 (by rw [z1, hz]; exact Nat.le_succ _), fun x h4 h5 => (o1 x (by have h6 := hS.1; rw [hz] at h6; exact Nat.lt_of_lt_of_le h4 h6)).trans (hS.2.1 x h4 h5), hS.2.2⟩
  dsimp only at k1
  rw [List.map_cons, aCvR g hlen] at k1
  exact k1
/-- Object's own constructor -/
theorem aObjI (hC : aCx C M) (hT : aOK M) {b : Nat} (hq : aLk M.2.2.2.2.2.2.1 pc = some (.invokespecial idx, 3)) (h1 : lw_tbl[p1]? = some (.methodLink M.1 idx Lib.objectInit)) (h2 : lw_tbl[p2]? = some (.instanceMethod Lib.objectInit)) (h3 : lw_tbl[p3]? = some (.code Lib.objectInit ⟨#[0xb1]⟩ 1 none)) (hb1 : b < 1000) (hrm : 1 ≤ M.2.2.2.2.2.1.frames ∧ (st.map fun v => v.category).sum + 12 ≤ M.2.2.2.2.2.1.locals)
    (kk : aX C M k n (pc + 3, lv, st, lay, S)) : aX C M k n (pc, lv, .ref b :: st, lay, S) := by
  obtain ⟨g, p, l, e, R, s, m, args, below, meth, c, Q⟩ := C
  obtain ⟨hx, hb, hml, hown, hts, hK, hRo, hbs, hini, hlk, hret, hR⟩ := hC
  intro H ls locs hP hz hl hS
  subst hR
  dsimp only
  rw [List.map_cons, aCvR g hb1]
  exact W.objInit hx hb hown (aTw hts h1) (aTw hts h2) (aTw hts h3) rfl (by rw [hml]; exact hl.1) rfl (aDc hT hq) hrm.1 (by rw [aCat]; show 2 * 0 + _ + 12 ≤ _; have := hrm.2; omega) (kk H ls locs hP hz hl hS)
end AN
/-! how the printed functions are read -/
def aLet {α β : Type} (x : α) (f : α → β) : β := f x
theorem aLetE {α β : Type} {x : α} {f : α → β} {r : β} (h : aLet x f = r) : ∃ y, x = y ∧ f y = r := ⟨x, rfl, h⟩
theorem aBnE {α β : Type} {x : Option α} {f : α → Option β} {r : β} (h : x.bind f = some r) : ∃ y, x = some y ∧ f y = some r := by
  cases x with
  | none => cases h
  | some y => exact ⟨y, rfl, h⟩
theorem aGdE {α : Type} {c : Prop} [Decidable c] {x : Option α} {r : α} (h : (if c then x else none) = some r) : c ∧ x = some r := by
  split at h
  · rename_i hc; exact ⟨hc, h⟩
  · cases h
theorem aIfT {α : Type} {c : Prop} [Decidable c] {x y r : α} (h : (if c then x else y) = r) (hc : c) : x = r := by
  rw [if_pos hc] at h; exact h
theorem aIfF {α : Type} {c : Prop} [Decidable c] {x y r : α} (h : (if c then x else y) = r) (hc : ¬ c) : y = r := by
  rw [if_neg hc] at h; exact h
/-- the contents behind a call; the answer -/
theorem aRetSub {α : Type} {x r : α} (h : x = r) : r = x := h.symm
theorem aIfE {α : Type} {c : Prop} [Decidable c] {x y r : α} (h : (if c then x else y) = r) : (c ∧ x = r) ∨ (¬ c ∧ y = r) := by
  by_cases hc : c
  · rw [if_pos hc] at h; exact Or.inl ⟨hc, h⟩
  · rw [if_neg hc] at h; exact Or.inr ⟨hc, h⟩
theorem aTswE {α : Type} {c : Prop} [Decidable c] {x y r : α} (h : (if c then x else y) = r) : (c ∧ x = r) ∨ (¬ c ∧ y = r) := aIfE h
theorem aIx_of {i : Int32} {N : Nat} (h1 : ¬ i < 0) (h2 : ¬ Int32.ofNat N ≤ i) (hN : N < 2 ^ 31) : aIx i N = true := by
  obtain ⟨j, hj, rfl⟩ := nI_of h1
  have h3 : ¬ N ≤ j := fun h => h2 (nI_le h hj)
  unfold aIx
  rw [nI_clamp hj]
  simp only [decide_eq_true_eq, not_or]
  exact ⟨nI_pos hj, h3⟩
/-- a call by a nest mate's word -/
def aCON (M M' : aM) (idx : Nat) (y : MethodName) (_p1 p2 p3 na : Nat) : Prop :=
  lw_tbl[p2]? = some (.initialized y.cls) ∧ lw_tbl[p3]? = some (.code y M'.2.1 M'.2.2.1 M'.2.2.2.2.1) ∧
  (y.cls ≠ "java/lang/invoke/MethodHandle" ∧ y.cls ≠ "java/lang/invoke/VarHandle" ∧ (parseMethodDescriptor y.desc).map (fun d => d.parameters.length) = some na) ∧
  (M'.2.2.2.2.2.1.frames + 1 ≤ M.2.2.2.2.2.1.frames ∧ 8 + (M'.2.2.1 + 11) + M'.2.2.2.2.2.1.locals ≤ M.2.2.2.2.2.1.locals) ∧ (M.1 = "NinePence" ∧ idx = 11 ∧ y = ⟨"NinePence$Text", "<init>", "()V"⟩)
theorem aCallIN {C : aC} {M M' : aM} {k n k' n' pc idx p1 p2 p3 na : Nat} {y : MethodName} {lv : List (Nat × Value)} {lay lay' : aLay} {S S' : aSt} {r : Option Value} {rest As : List Value} {b : Nat}
    (hC : aCx C M) (hT : aOK M) (hq : aLk M.2.2.2.2.2.2.1 pc = some (.invokespecial idx, 3)) (hO : aCON M M' idx y p1 p2 p3 na) (p4 : Nat) (h4 : lw_tbl[p4]? = some (.instanceMethod y)) (hyn : y.name = "<init>") (hret2 : M'.2.2.2.2.1 = none) (hb1 : b < 1000) (hn : As.length = na) (hrs : (rest.map fun v => v.category).sum ≤ 8)
    (hrm : M'.2.2.2.2.2.1.cells = k' ∧ M'.2.2.2.2.2.1.slots = n' ∧ k + k' ≤ M.2.2.2.2.2.1.cells ∧ n + n' ≤ M.2.2.2.2.2.1.slots)
    (hJ : aJ C.2.2.1 C.1 y M' (.ref b :: As) lay S r lay' S' k' n') (kk : aX C M (k + k') (n + n') (pc + 3, lv, r.toList ++ rest, lay', S')) : aX C M k n (pc, lv, As.reverse ++ .ref b :: rest, lay, S) := by
  obtain ⟨g, p, l, e, R, s, m, args, below, meth, c, Q⟩ := C
  obtain ⟨hx, hb, hml, hown, hts, hK, hRo, hbs, hini, hlk, hret, hR⟩ := hC
  obtain ⟨o2, o3, o4, o5, om, oi, oy⟩ := hO
  intro H ls locs hP hz hl hS
  subst hR
  rw [hret2] at o3
  unfold aJ at hJ
  rw [hret2] at hJ
  have hcode := aTb o3 rfl
  have hst : (As.reverse ++ .ref b :: rest).map (aCv g) = (As.map (aCv g)).reverse ++ .ref (g.2.2.1 + b) :: rest.map (aCv g) := by rw [List.map_append, List.map_reverse, List.map_cons, aCvR g hb1]
  dsimp only
  rw [hst]
  have hnw : va_Nw (.methodLinkNest M.1 idx y "NinePence") s := by rw [om, oi, oy]; exact hRo.2.2.2.2.2.1
  have cb := va_cnB (R := M.2.2.2.2.2.1) (args := args) (mc := k') (ms := n') na hts (aGoodIn hcode) rfl hrm.1 hrm.2.1 hnw (aTw hts o2) o4 o5
  have hpc : ∀ U : State, U.heap = H → s.WarmedH U.vm → aPc g (.ref b :: As) lay S (Value.ref (g.2.2.1 + b) :: As.map (aCv g)).toArray U := fun U hU hW => ⟨by rw [List.map_cons, aCvR g hb1], by rw [hU]; exact hP, by rw [hU]; exact hz, va_K.moved hW.alike hK, by rw [hU]; exact hRo.on hS hW⟩
  refine aFromRun (M := M) (lay' := lay') (S' := S') (va_runIN (As := As.map (aCv g)) (rest := rest.map (aCv g)) ⟨hx, hb, hml, hown, hts⟩ hJ ⟨cb, hyn, aTw hts h4⟩ ⟨aBlind g _ lay S, hpc⟩ rfl (by rw [List.length_map]; exact hn) hl.1 rfl (lv_room (by rw [aCat]; exact hrs)) (aDc hT hq) ⟨hrm.2.2.1, hrm.2.2.2⟩) hS hl kk
