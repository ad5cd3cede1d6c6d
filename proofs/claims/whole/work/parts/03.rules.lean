/-! the rules by which contracts are proved: straight runs, branches, array cells, results, calls, new cells -/
theorem aRun_ok {C : aC} {M : aM} {k n : Nat} (hC : aCx C M) (hT : aOK M) : ∀ (q : Nat) {cf cf' : aCf}, aRun q M cf = some cf' → aX C M k n cf' → aX C M k n cf
  | 0, cf, cf', h, kk => by cases h; exact kk
  | q + 1, cf, cf', h, kk => by
    unfold aRun at h
    split at h
    · cases h
    · rename_i c1 h1
      have k1 := aRun_ok hC hT q h kk
      unfold aStep at h1
      split at h1
      · cases h1
      · rename_i w hw
        exact aIns_ok hC hT (aDc hT hw) h1 k1
/-- other locals, in another order: each that is listed now was listed -/
theorem aLocs {C : aC} {M : aM} {k n pc : Nat} {lv lv' : List (Nat × Value)} {st : List Value} {lay : aLay} {S : aSt} (ks : List Nat) (hks : ks.filterMap (fun i => lv[i]?) = lv') (kk : aX C M k n (pc, lv', st, lay, S)) : aX C M k n (pc, lv, st, lay, S) := by
  obtain ⟨g, p, l, e, R, s, m, args, below, meth, c, Q⟩ := C
  intro H ls locs hP hz hl hS
  refine kk H ls locs hP hz ⟨hl.1, hl.2.1, fun q hq => ?_⟩ hS
  obtain ⟨q0, hq0, rfl⟩ := List.mem_map.mp hq
  refine hl.2.2 _ (List.mem_map.mpr ⟨q0, ?_, rfl⟩)
  have hq1 : q0 ∈ lv' := hq0
  rw [← hks] at hq1
  obtain ⟨i, -, hi⟩ := List.mem_filterMap.mp hq1
  exact List.mem_of_getElem? hi
section AB
variable {C : aC} {M : aM} {k n pc : Nat} {lv : List (Nat × Value)} {st : List Value} {lay : aLay} {S : aSt}
theorem aIf_eq (hC : aCx C M) (hT : aOK M) {x : Int32} {off : Int} {tgt : Nat} (hq : aLk M.2.2.2.2.2.2.1 pc = some (.ifCond .eq off, 3)) (ht : (pc : Int) + off = (tgt : Int)) (kt : x = 0 → aX C M k n (tgt, lv, st, lay, S)) (kf : ¬ x = 0 → aX C M k n (pc + 3, lv, st, lay, S)) : aX C M k n (pc, lv, .int x :: st, lay, S) := by
  obtain ⟨g, p, l, e, R, s, m, args, below, meth, c, Q⟩ := C
  obtain ⟨hx, hb, -⟩ := hC
  intro H ls locs hP hz hl hS
  exact lv_if_eq hx hb (aDc hT hq) ht (fun h => kt h H ls locs hP hz hl hS) (fun h => kf h H ls locs hP hz hl hS)
theorem aIf_ne (hC : aCx C M) (hT : aOK M) {x : Int32} {off : Int} {tgt : Nat} (hq : aLk M.2.2.2.2.2.2.1 pc = some (.ifCond .ne off, 3)) (ht : (pc : Int) + off = (tgt : Int)) (kt : ¬ x = 0 → aX C M k n (tgt, lv, st, lay, S)) (kf : x = 0 → aX C M k n (pc + 3, lv, st, lay, S)) : aX C M k n (pc, lv, .int x :: st, lay, S) := by
  obtain ⟨g, p, l, e, R, s, m, args, below, meth, c, Q⟩ := C
  obtain ⟨hx, hb, -⟩ := hC
  intro H ls locs hP hz hl hS
  exact lv_if_ne hx hb (aDc hT hq) ht (fun h => kt h H ls locs hP hz hl hS) (fun h => kf h H ls locs hP hz hl hS)
theorem aIf_lt (hC : aCx C M) (hT : aOK M) {x : Int32} {off : Int} {tgt : Nat} (hq : aLk M.2.2.2.2.2.2.1 pc = some (.ifCond .lt off, 3)) (ht : (pc : Int) + off = (tgt : Int)) (kt : x < 0 → aX C M k n (tgt, lv, st, lay, S)) (kf : ¬ x < 0 → aX C M k n (pc + 3, lv, st, lay, S)) : aX C M k n (pc, lv, .int x :: st, lay, S) := by
  obtain ⟨g, p, l, e, R, s, m, args, below, meth, c, Q⟩ := C
  obtain ⟨hx, hb, -⟩ := hC
  intro H ls locs hP hz hl hS
  exact lv_if_lt hx hb (aDc hT hq) ht (fun h => kt h H ls locs hP hz hl hS) (fun h => kf h H ls locs hP hz hl hS)
theorem aIf_ge (hC : aCx C M) (hT : aOK M) {x : Int32} {off : Int} {tgt : Nat} (hq : aLk M.2.2.2.2.2.2.1 pc = some (.ifCond .ge off, 3)) (ht : (pc : Int) + off = (tgt : Int)) (kt : 0 ≤ x → aX C M k n (tgt, lv, st, lay, S)) (kf : ¬ 0 ≤ x → aX C M k n (pc + 3, lv, st, lay, S)) : aX C M k n (pc, lv, .int x :: st, lay, S) := by
  obtain ⟨g, p, l, e, R, s, m, args, below, meth, c, Q⟩ := C
  obtain ⟨hx, hb, -⟩ := hC
  intro H ls locs hP hz hl hS
  exact lv_if_ge hx hb (aDc hT hq) ht (fun h => kt h H ls locs hP hz hl hS) (fun h => kf h H ls locs hP hz hl hS)
theorem aIf_gt (hC : aCx C M) (hT : aOK M) {x : Int32} {off : Int} {tgt : Nat} (hq : aLk M.2.2.2.2.2.2.1 pc = some (.ifCond .gt off, 3)) (ht : (pc : Int) + off = (tgt : Int)) (kt : 0 < x → aX C M k n (tgt, lv, st, lay, S)) (kf : ¬ 0 < x → aX C M k n (pc + 3, lv, st, lay, S)) : aX C M k n (pc, lv, .int x :: st, lay, S) := by
  obtain ⟨g, p, l, e, R, s, m, args, below, meth, c, Q⟩ := C
  obtain ⟨hx, hb, -⟩ := hC
  intro H ls locs hP hz hl hS
  exact lv_if_gt hx hb (aDc hT hq) ht (fun h => kt h H ls locs hP hz hl hS) (fun h => kf h H ls locs hP hz hl hS)
theorem aIf_le (hC : aCx C M) (hT : aOK M) {x : Int32} {off : Int} {tgt : Nat} (hq : aLk M.2.2.2.2.2.2.1 pc = some (.ifCond .le off, 3)) (ht : (pc : Int) + off = (tgt : Int)) (kt : x ≤ 0 → aX C M k n (tgt, lv, st, lay, S)) (kf : ¬ x ≤ 0 → aX C M k n (pc + 3, lv, st, lay, S)) : aX C M k n (pc, lv, .int x :: st, lay, S) := by
  obtain ⟨g, p, l, e, R, s, m, args, below, meth, c, Q⟩ := C
  obtain ⟨hx, hb, -⟩ := hC
  intro H ls locs hP hz hl hS
  exact lv_if_le hx hb (aDc hT hq) ht (fun h => kt h H ls locs hP hz hl hS) (fun h => kf h H ls locs hP hz hl hS)
theorem aCmp_eq (hC : aCx C M) (hT : aOK M) {x y : Int32} {off : Int} {tgt : Nat} (hq : aLk M.2.2.2.2.2.2.1 pc = some (.if_icmp .eq off, 3)) (ht : (pc : Int) + off = (tgt : Int)) (kt : x = y → aX C M k n (tgt, lv, st, lay, S)) (kf : ¬ x = y → aX C M k n (pc + 3, lv, st, lay, S)) : aX C M k n (pc, lv, .int y :: .int x :: st, lay, S) := by
  obtain ⟨g, p, l, e, R, s, m, args, below, meth, c, Q⟩ := C
  obtain ⟨hx, hb, -⟩ := hC
  intro H ls locs hP hz hl hS
  exact lv_icmp_eq hx hb (aDc hT hq) ht (fun h => kt h H ls locs hP hz hl hS) (fun h => kf h H ls locs hP hz hl hS)
theorem aCmp_ne (hC : aCx C M) (hT : aOK M) {x y : Int32} {off : Int} {tgt : Nat} (hq : aLk M.2.2.2.2.2.2.1 pc = some (.if_icmp .ne off, 3)) (ht : (pc : Int) + off = (tgt : Int)) (kt : ¬ x = y → aX C M k n (tgt, lv, st, lay, S)) (kf : x = y → aX C M k n (pc + 3, lv, st, lay, S)) : aX C M k n (pc, lv, .int y :: .int x :: st, lay, S) := by
  obtain ⟨g, p, l, e, R, s, m, args, below, meth, c, Q⟩ := C
  obtain ⟨hx, hb, -⟩ := hC
  intro H ls locs hP hz hl hS
  exact lv_icmp_ne hx hb (aDc hT hq) ht (fun h => kt h H ls locs hP hz hl hS) (fun h => kf h H ls locs hP hz hl hS)
theorem aCmp_lt (hC : aCx C M) (hT : aOK M) {x y : Int32} {off : Int} {tgt : Nat} (hq : aLk M.2.2.2.2.2.2.1 pc = some (.if_icmp .lt off, 3)) (ht : (pc : Int) + off = (tgt : Int)) (kt : x < y → aX C M k n (tgt, lv, st, lay, S)) (kf : ¬ x < y → aX C M k n (pc + 3, lv, st, lay, S)) : aX C M k n (pc, lv, .int y :: .int x :: st, lay, S) := by
  obtain ⟨g, p, l, e, R, s, m, args, below, meth, c, Q⟩ := C
  obtain ⟨hx, hb, -⟩ := hC
  intro H ls locs hP hz hl hS
  exact lv_icmp_lt hx hb (aDc hT hq) ht (fun h => kt h H ls locs hP hz hl hS) (fun h => kf h H ls locs hP hz hl hS)
theorem aCmp_ge (hC : aCx C M) (hT : aOK M) {x y : Int32} {off : Int} {tgt : Nat} (hq : aLk M.2.2.2.2.2.2.1 pc = some (.if_icmp .ge off, 3)) (ht : (pc : Int) + off = (tgt : Int)) (kt : y ≤ x → aX C M k n (tgt, lv, st, lay, S)) (kf : ¬ y ≤ x → aX C M k n (pc + 3, lv, st, lay, S)) : aX C M k n (pc, lv, .int y :: .int x :: st, lay, S) := by
  obtain ⟨g, p, l, e, R, s, m, args, below, meth, c, Q⟩ := C
  obtain ⟨hx, hb, -⟩ := hC
  intro H ls locs hP hz hl hS
  exact lv_icmp_ge hx hb (aDc hT hq) ht (fun h => kt h H ls locs hP hz hl hS) (fun h => kf h H ls locs hP hz hl hS)
theorem aCmp_gt (hC : aCx C M) (hT : aOK M) {x y : Int32} {off : Int} {tgt : Nat} (hq : aLk M.2.2.2.2.2.2.1 pc = some (.if_icmp .gt off, 3)) (ht : (pc : Int) + off = (tgt : Int)) (kt : y < x → aX C M k n (tgt, lv, st, lay, S)) (kf : ¬ y < x → aX C M k n (pc + 3, lv, st, lay, S)) : aX C M k n (pc, lv, .int y :: .int x :: st, lay, S) := by
  obtain ⟨g, p, l, e, R, s, m, args, below, meth, c, Q⟩ := C
  obtain ⟨hx, hb, -⟩ := hC
  intro H ls locs hP hz hl hS
  exact lv_icmp_gt hx hb (aDc hT hq) ht (fun h => kt h H ls locs hP hz hl hS) (fun h => kf h H ls locs hP hz hl hS)
theorem aCmp_le (hC : aCx C M) (hT : aOK M) {x y : Int32} {off : Int} {tgt : Nat} (hq : aLk M.2.2.2.2.2.2.1 pc = some (.if_icmp .le off, 3)) (ht : (pc : Int) + off = (tgt : Int)) (kt : x ≤ y → aX C M k n (tgt, lv, st, lay, S)) (kf : ¬ x ≤ y → aX C M k n (pc + 3, lv, st, lay, S)) : aX C M k n (pc, lv, .int y :: .int x :: st, lay, S) := by
  obtain ⟨g, p, l, e, R, s, m, args, below, meth, c, Q⟩ := C
  obtain ⟨hx, hb, -⟩ := hC
  intro H ls locs hP hz hl hS
  exact lv_icmp_le hx hb (aDc hT hq) ht (fun h => kt h H ls locs hP hz hl hS) (fun h => kf h H ls locs hP hz hl hS)
theorem aTsw (hC : aCx C M) (hT : aOK M) {x : Int32} {d lo hi : Int} {offs : Array Int} {len : Nat} {off : Int} {tgt : Nat} (hq : aLk M.2.2.2.2.2.2.1 pc = some (.tableswitch d lo hi offs, len)) (v : Int32) (hv : x = v) (h1 : ¬ v.toInt < lo) (h2 : ¬ hi < v.toInt) (ho : offs[(v.toInt - lo).toNat]? = some off) (ht : (pc : Int) + off = (tgt : Int)) (kk : aX C M k n (tgt, lv, st, lay, S)) : aX C M k n (pc, lv, .int x :: st, lay, S) := by
  obtain ⟨g, p, l, e, R, s, m, args, below, meth, c, Q⟩ := C
  obtain ⟨hx, hb, -⟩ := hC
  intro H ls locs hP hz hl hS
  subst hv
  exact lv_tableIn hx hb (aDc hT hq) h1 h2 ho ht (kk H ls locs hP hz hl hS)
theorem aTswD (hC : aCx C M) (hT : aOK M) {x : Int32} {d lo hi : Int} {offs : Array Int} {len : Nat} {tgt : Nat} (hq : aLk M.2.2.2.2.2.2.1 pc = some (.tableswitch d lo hi offs, len)) (h : x.toInt < lo ∨ hi < x.toInt) (ht : (pc : Int) + d = (tgt : Int)) (kk : aX C M k n (tgt, lv, st, lay, S)) : aX C M k n (pc, lv, .int x :: st, lay, S) := by
  obtain ⟨g, p, l, e, R, s, m, args, below, meth, c, Q⟩ := C
  obtain ⟨hx, hb, -⟩ := hC
  intro H ls locs hP hz hl hS
  exact lv_tableOut hx hb (aDc hT hq) h ht (kk H ls locs hP hz hl hS)
theorem aLsw (hC : aCx C M) (hT : aOK M) {x : Int32} {d : Int} {ps : Array (Int × Int)} {len : Nat} {off : Int} {tgt : Nat} (hq : aLk M.2.2.2.2.2.2.1 pc = some (.lookupswitch d ps, len)) (hp : (ps.toList.zip (ps.toList.drop 1)).all (fun (a, next) => a.1 < next.1) = true) (ho : Op.lookupswitch.offset ps.toList d x.toInt = off) (ht : (pc : Int) + off = (tgt : Int)) (kk : aX C M k n (tgt, lv, st, lay, S)) : aX C M k n (pc, lv, .int x :: st, lay, S) := by
  obtain ⟨g, p, l, e, R, s, m, args, below, meth, c, Q⟩ := C
  obtain ⟨hx, hb, -⟩ := hC
  intro H ls locs hP hz hl hS
  exact lv_lookup hx hb (aDc hT hq) hp ho ht (kk H ls locs hP hz hl hS)
/-- a place of an array -/
def aIx (i : Int32) (N : Nat) : Bool := decide (¬ (i < 0 ∨ N ≤ i.toNatClampNeg))
theorem aIx_in {i : Int32} {N : Nat} (h : aIx i N = true) : vp_in i N := of_decide_eq_true h
theorem aIald (hC : aCx C M) (hT : aOK M) {i : Int32} {q N : Nat} (hq : aLk M.2.2.2.2.2.2.1 pc = some (.iaload, 1)) (hk : q < 1000) (hly : lay[q]? = some (.inl (0, N))) (hin : aIx i N = true) (kk : aX C M k n (pc + 1, lv, .int (S.2.2 q i.toNatClampNeg) :: st, lay, S)) : aX C M k n (pc, lv, .int i :: .ref q :: st, lay, S) := by
  obtain ⟨g, p, l, e, R, s, m, args, below, meth, c, Q⟩ := C
  obtain ⟨hx, hb, hml, hown, hts, hK, hRo, hbs, hini, hlk, hret, hR⟩ := hC
  intro H ls locs hP hz hl hS
  show W p l e R s m args below meth c H locs k n Q (F0 m pc ls (.int i :: aCv g (.ref q) :: st.map (aCv g)))
  rw [aCvR g hk]
  exact va_iald hx hb hK hP q 0 (aWs_at hly) rfl (aIx_in hin) (aDc hT hq) (kk H ls locs hP hz hl hS)
theorem aIaldT (hC : aCx C M) (hT : aOK M) {i : Int32} (hq : aLk M.2.2.2.2.2.2.1 pc = some (.iaload, 1)) (hin : aIx i 7 = true) (kk : aX C M k n (pc + 1, lv, .int (aTENS.getD i.toNatClampNeg 0) :: st, lay, S)) : aX C M k n (pc, lv, .int i :: .ref 1001 :: st, lay, S) := by
  obtain ⟨g, p, l, e, R, s, m, args, below, meth, c, Q⟩ := C
  obtain ⟨hx, hb, hml, hown, hts, hK, hRo, hbs, hini, hlk, hret, hR⟩ := hC
  intro H ls locs hP hz hl hS
  exact va_ti hx hb hRo.1 hS (aIx_in hin) rfl (aDc hT hq) (kk H ls locs hP hz hl hS)
theorem aZald (hC : aCx C M) (hT : aOK M) {i : Int32} {q N : Nat} (hq : aLk M.2.2.2.2.2.2.1 pc = some (.baload, 1)) (hk : q < 1000) (hly : lay[q]? = some (.inl (1, N))) (hin : aIx i N = true) (kk : aX C M k n (pc + 1, lv, .int (S.2.2 q i.toNatClampNeg) :: st, lay, S)) : aX C M k n (pc, lv, .int i :: .ref q :: st, lay, S) := by
  obtain ⟨g, p, l, e, R, s, m, args, below, meth, c, Q⟩ := C
  obtain ⟨hx, hb, hml, hown, hts, hK, hRo, hbs, hini, hlk, hret, hR⟩ := hC
  intro H ls locs hP hz hl hS
  show W p l e R s m args below meth c H locs k n Q (F0 m pc ls (.int i :: aCv g (.ref q) :: st.map (aCv g)))
  rw [aCvR g hk]
  exact va_zald hx hb hK hP q 1 (aWs_at hly) rfl (aIx_in hin) (aDc hT hq) (kk H ls locs hP hz hl hS)
theorem aBald (hC : aCx C M) (hT : aOK M) {i : Int32} {q : Nat} (hq : aLk M.2.2.2.2.2.2.1 pc = some (.baload, 1)) (h1 : 1011 ≤ q) (h2 : q < 1020) (hin : aIx i (aLen.getD (q - 1011) 0) = true) (kk : aX C M k n (pc + 1, lv, .int ((aByt.getD (q - 1011) []).getD i.toNatClampNeg 0) :: st, lay, S)) : aX C M k n (pc, lv, .int i :: .ref q :: st, lay, S) := by
  obtain ⟨g, p, l, e, R, s, m, args, below, meth, c, Q⟩ := C
  obtain ⟨hx, hb, hml, hown, hts, hK, hRo, hbs, hini, hlk, hret, hR⟩ := hC
  intro H ls locs hP hz hl hS
  show W p l e R s m args below meth c H locs k n Q (F0 m pc ls (.int i :: aCv g (.ref q) :: st.map (aCv g)))
  obtain ⟨hb9, ek⟩ := aRefB g q h1 h2
  rw [ek]
  exact va_tb hx hb (hRo.2.2.2.1.1 (q - 1011) hb9).2.2.2 hS (aIx_in hin) rfl (aDc hT hq) (kk H ls locs hP hz hl hS)
theorem aArr_ws {g : aWg} {lay : aLay} {S : aSt} {q t N : Nat} {f : Nat → Int32} (hly : lay[q]? = some (.inl (t, N))) : (aWs g lay S).set q (g.2.2.1 + q, .inl (g.2.1 t, N, .inl f)) = aWs g lay (aA S q f) := by
  have h2 := aWs_set (g := g) (S := S) (S' := aA S q f) (k := q) (o := .inl (t, N)) (aLay_lt hly) (fun a o' ha => aCell_eq rfl rfl (aA_ne S f ha))
  rw [aLay_set hly] at h2
  have e : aCell g (aA S q f) q (.inl (t, N)) = .inl (g.2.1 t, N, .inl f) := by
    show va_E.inl _ = _
    rw [aA_at]
  rw [e] at h2
  exact h2
theorem aIast (hC : aCx C M) (hT : aOK M) {i x : Int32} {q N : Nat} (hq : aLk M.2.2.2.2.2.2.1 pc = some (.iastore, 1)) (hk : q < 1000) (hly : lay[q]? = some (.inl (0, N))) (hin : aIx i N = true) (kk : aX C M k n (pc + 1, lv, st, lay, aA S q (upd (S.2.2 q) i.toNatClampNeg x))) : aX C M k n (pc, lv, .int x :: .int i :: .ref q :: st, lay, S) := by
  obtain ⟨g, p, l, e, R, s, m, args, below, meth, c, Q⟩ := C
  obtain ⟨hx, hb, hml, hown, hts, hK, hRo, hbs, hini, hlk, hret, hR⟩ := hC
  intro H ls locs hP hz hl hS
  show W p l e R s m args below meth c H locs k n Q (F0 m pc ls (.int x :: .int i :: aCv g (.ref q) :: st.map (aCv g)))
  rw [aCvR g hk]
  refine aIastW hx hb hK hP (aD g lay S) hS q 0 (aWs_at hly) rfl (aIx_in hin) (aDc hT hq) (fun H1 locs1 hP1 hz1 hS1 => ?_)
  rw [aArr_ws hly] at hP1
  exact kk H1 ls locs1 hP1 (hz1.trans hz) hl hS1
theorem aZast (hC : aCx C M) (hT : aOK M) {i x : Int32} {q N : Nat} (hq : aLk M.2.2.2.2.2.2.1 pc = some (.bastore, 1)) (hk : q < 1000) (hly : lay[q]? = some (.inl (1, N))) (hin : aIx i N = true) (hxx : x = 0 ∨ x = 1) (kk : aX C M k n (pc + 1, lv, st, lay, aA S q (upd (S.2.2 q) i.toNatClampNeg x))) : aX C M k n (pc, lv, .int x :: .int i :: .ref q :: st, lay, S) := by
  obtain ⟨g, p, l, e, R, s, m, args, below, meth, c, Q⟩ := C
  obtain ⟨hx, hb, hml, hown, hts, hK, hRo, hbs, hini, hlk, hret, hR⟩ := hC
  intro H ls locs hP hz hl hS
  show W p l e R s m args below meth c H locs k n Q (F0 m pc ls (.int x :: .int i :: aCv g (.ref q) :: st.map (aCv g)))
  rw [aCvR g hk]
  refine aZastW hx hb hK hP (aD g lay S) hS q 1 (aWs_at hly) rfl (aIx_in hin) (by rcases hxx with rfl | rfl <;> decide) (aDc hT hq) (fun H1 locs1 hP1 hz1 hS1 => ?_)
  rw [aArr_ws hly] at hP1
  exact kk H1 ls locs1 hP1 (hz1.trans hz) hl hS1
theorem aLdiv (hC : aCx C M) (hT : aOK M) {x y : Int64} (hq : aLk M.2.2.2.2.2.2.1 pc = some (.ldiv, 1)) (hy : ¬ y = 0) (kk : aX C M k n (pc + 1, lv, .long (x / y) :: st, lay, S)) : aX C M k n (pc, lv, .long y :: .long x :: st, lay, S) := by
  obtain ⟨g, p, l, e, R, s, m, args, below, meth, c, Q⟩ := C
  obtain ⟨hx, hb, -⟩ := hC
  intro H ls locs hP hz hl hS
  exact lv_ldiv hx hb (aDc hT hq) hy (kk H ls locs hP hz hl hS)
theorem aLrem (hC : aCx C M) (hT : aOK M) {x y : Int64} (hq : aLk M.2.2.2.2.2.2.1 pc = some (.lrem, 1)) (hy : ¬ y = 0) (kk : aX C M k n (pc + 1, lv, .long (x - x / y * y) :: st, lay, S)) : aX C M k n (pc, lv, .long y :: .long x :: st, lay, S) := by
  obtain ⟨g, p, l, e, R, s, m, args, below, meth, c, Q⟩ := C
  obtain ⟨hx, hb, -⟩ := hC
  intro H ls locs hP hz hl hS
  exact lv_lrem hx hb (aDc hT hq) hy (kk H ls locs hP hz hl hS)
theorem aIdiv (hC : aCx C M) (hT : aOK M) {x y : Int32} (hq : aLk M.2.2.2.2.2.2.1 pc = some (.idiv, 1)) (hy : ¬ y = 0) (kk : aX C M k n (pc + 1, lv, .int (x / y) :: st, lay, S)) : aX C M k n (pc, lv, .int y :: .int x :: st, lay, S) := by
  obtain ⟨g, p, l, e, R, s, m, args, below, meth, c, Q⟩ := C
  obtain ⟨hx, hb, -⟩ := hC
  intro H ls locs hP hz hl hS
  exact lv_idiv hx hb (aDc hT hq) hy (kk H ls locs hP hz hl hS)
theorem aIrem (hC : aCx C M) (hT : aOK M) {x y : Int32} (hq : aLk M.2.2.2.2.2.2.1 pc = some (.irem, 1)) (hy : ¬ y = 0) (kk : aX C M k n (pc + 1, lv, .int (x - x / y * y) :: st, lay, S)) : aX C M k n (pc, lv, .int y :: .int x :: st, lay, S) := by
  obtain ⟨g, p, l, e, R, s, m, args, below, meth, c, Q⟩ := C
  obtain ⟨hx, hb, -⟩ := hC
  intro H ls locs hP hz hl hS
  exact lv_irem hx hb (aDc hT hq) hy (kk H ls locs hP hz hl hS)
end AB
/-! results -/
def aQc (g : aWg) (r : Option Value) (lay : aLay) (S : aSt) : Array Value → State → Outcome → State → Prop := fun _ st o t => o = .returned (r.map (aCv g)) ∧ va_P g.1 vwCl (aWs g lay S) t.heap ∧ t.heap.size = g.2.2.1 + lay.length ∧ va_F (aAg g) st t
def aFin (C : aC) (r : Option Value) (lay : aLay) (S : aSt) (k n : Nat) : Prop := match C with
  | (g, _p, _l, _e, _R, s, _m, args, below, _meth, _c, Q) => Q = MQ below (aQc g r lay S) args s k n (aAg g)
section AR
variable {C : aC} {M : aM} {k n pc : Nat} {lv : List (Nat × Value)} {lay : aLay} {S : aSt}
theorem aRetV (hC : aCx C M) (hT : aOK M) (hF : aFin C none lay S k n) (hr : M.2.2.2.2.1 = none) (hq : aLk M.2.2.2.2.2.2.1 pc = some (.return_, 1)) : aX C M k n (pc, lv, [], lay, S) := by
  obtain ⟨g, p, l, e, R, s, m, args, below, meth, c, Q⟩ := C
  obtain ⟨hx, hb, hml, hown, hts, hK, hRo, hbs, hini, hlk, hret, hR⟩ := hC
  intro H ls locs hP hz hl hS
  cases hF
  exact W.vret hx hb (hret.trans hr) (fun t ht hW => ⟨rfl, by rw [ht]; exact hP, by rw [ht]; exact hz, hS.F ht⟩) hS.2.2 (aDc hT hq) hlk
theorem aRetI (hC : aCx C M) (hT : aOK M) {v : Int32} (hF : aFin C (some (.int v)) lay S k n) (hr : M.2.2.2.2.1 = some .int) (hq : aLk M.2.2.2.2.2.2.1 pc = some (.ireturn, 1)) : aX C M k n (pc, lv, [.int v], lay, S) := by
  obtain ⟨g, p, l, e, R, s, m, args, below, meth, c, Q⟩ := C
  obtain ⟨hx, hb, hml, hown, hts, hK, hRo, hbs, hini, hlk, hret, hR⟩ := hC
  intro H ls locs hP hz hl hS
  cases hF
  exact W.iret hx hb (hret.trans hr) (fun t ht hW => ⟨rfl, by rw [ht]; exact hP, by rw [ht]; exact hz, hS.F ht⟩) hS.2.2 (aDc hT hq) hlk
theorem aRetL (hC : aCx C M) (hT : aOK M) {v : Int64} (hF : aFin C (some (.long v)) lay S k n) (hr : M.2.2.2.2.1 = some .long) (hq : aLk M.2.2.2.2.2.2.1 pc = some (.lreturn, 1)) : aX C M k n (pc, lv, [.long v], lay, S) := by
  obtain ⟨g, p, l, e, R, s, m, args, below, meth, c, Q⟩ := C
  obtain ⟨hx, hb, hml, hown, hts, hK, hRo, hbs, hini, hlk, hret, hR⟩ := hC
  intro H ls locs hP hz hl hS
  cases hF
  exact W.lret hx hb (hret.trans hr) (fun t ht hW => ⟨rfl, by rw [ht]; exact hP, by rw [ht]; exact hz, hS.F ht⟩) hS.2.2 (aDc hT hq) hlk
theorem aRetZ (hC : aCx C M) (hT : aOK M) {v : Int32} {ty : FieldType} (hF : aFin C (some (.int v)) lay S k n) (hr : M.2.2.2.2.1 = some ty) (hn : narrow ty (.int v) = .int v) (hq : aLk M.2.2.2.2.2.2.1 pc = some (.ireturn, 1)) : aX C M k n (pc, lv, [.int v], lay, S) := by
  obtain ⟨g, p, l, e, R, s, m, args, below, meth, c, Q⟩ := C
  obtain ⟨hx, hb, hml, hown, hts, hK, hRo, hbs, hini, hlk, hret, hR⟩ := hC
  intro H ls locs hP hz hl hS
  cases hF
  exact W.zret hx hb (hret.trans hr) hn (fun t ht hW => ⟨rfl, by rw [ht]; exact hP, by rw [ht]; exact hz, hS.F ht⟩) hS.2.2 (aDc hT hq) hlk
theorem aRetB (hC : aCx C M) (hT : aOK M) {v : Int32} (hF : aFin C (some (.int v)) lay S k n) (hr : M.2.2.2.2.1 = some .boolean) (hv : v = 0 ∨ v = 1) (hq : aLk M.2.2.2.2.2.2.1 pc = some (.ireturn, 1)) : aX C M k n (pc, lv, [.int v], lay, S) :=
  aRetZ hC hT hF hr (by rcases hv with rfl | rfl <;> decide) hq
end AR
/-! a contract: from layout and contents, with these arguments, the method returns this and leaves these -/
def aPc (g : aWg) (as : List Value) (lay : aLay) (S : aSt) : Array Value → State → Prop := va_Pc (as.map (aCv g)) (fun U => va_P g.1 vwCl (aWs g lay S) U.heap ∧ U.heap.size = g.2.2.1 + lay.length ∧ va_K g.1 vwCl (aTy g) U ∧ aRo g U U.heap)
def aJ (l : Launch) (g : aWg) (y : MethodName) (M : aM) (as : List Value) (lay : aLay) (S : aSt) (r : Option Value) (lay' : aLay) (S' : aSt) (k n : Nat) : Prop :=
  Met l y (Cond.code y M.2.1 M.2.2.1 M.2.2.2.2.1 :: lw_tbl) M.2.2.2.2.2.1 (aPc g as lay S) (aQc g r lay' S') k n (aAg g)
theorem aCvArgs (g : aWg) (as : List Value) : ∀ i : Nat, lv_args i (as.map (aCv g)) = (lv_args i as).map (aCq g) := by
  induction as with
  | nil => intro i; rfl
  | cons v as ih =>
    intro i
    simp only [List.map_cons, lv_args]
    sorry
