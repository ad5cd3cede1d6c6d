/-! looks: what they are -/
def owA (D : Dt) (I : List Nat) (e : Nat) : Nat := (I.map (fun i => if kA D i < 5 ∧ pA D i = e then wA D i else 0)).sum
theorem owA_app (D : Dt) (I : List Nat) (i e : Nat) : owA D (I ++ [i]) e = owA D I e + if kA D i < 5 ∧ pA D i = e then wA D i else 0 := by
  unfold owA; rw [List.map_append, List.sum_append]; simp
theorem owA_le {D : Dt} (ok : okD D) (e : Nat) : ∀ {I : List Nat}, (∀ i ∈ I, i < nA D) → owA D I e ≤ I.length * 9801
  | [], _ => by simp [owA]
  | i :: I, h => by
    have ih := owA_le ok e (I := I) (fun j hj => h j (List.mem_cons_of_mem _ hj))
    have hw := (wA_ok ok (h i List.mem_cons_self)).2.1
    unfold owA at ih ⊢
    rw [List.map_cons, List.sum_cons, List.length_cons, Nat.add_mul]
    split <;> omega
theorem SI_lt {D : Dt} {q : Sl → Bool} {i : Nat} (h : i < (SI D q).length) : (SI D q).getD i 0 < nA D := (SIx_lt (D := D) (q := q) (n := (SL D).length) (i := (SI D q).getD i 0) (getD_mem (d := 0) h)).1
theorem SI_157 {D : Dt} {q : Sl → Bool} (ok : okD D) : (SI D q).length ≤ 157 := SIx_157 ok (Nat.le_refl _)
theorem take_n {I : List Nat} {i : Nat} (h : i < I.length) : I.take (i + 1) = I.take i ++ [I.getD i 0] := by
  rw [List.take_succ_eq_append_getElem h, List.getD_eq_getElem?_getD, List.getElem?_eq_getElem h]; rfl
def owS (D : Dt) (q : Sl → Bool) (e : Nat) : Nat := owA D (SI D q) e
theorem owA_tk {D : Dt} {q : Sl → Bool} (ok : okD D) (e i : Nat) : owA D ((SI D q).take i) e ≤ 1538757 := by
  have h1 := owA_le ok e (I := (SI D q).take i) (fun j hj => (SIx_lt (List.mem_of_mem_take hj)).1)
  have h2 := SI_157 (q := q) ok
  have h3 : ((SI D q).take i).length ≤ 157 := by rw [List.length_take]; omega
  have : ((SI D q).take i).length * 9801 ≤ 157 * 9801 := Nat.mul_le_mul_right _ h3
  omega
theorem owS_le {D : Dt} {q : Sl → Bool} (ok : okD D) (e : Nat) : owS D q e ≤ 1538757 := by
  have := owA_tk (q := q) ok e (SI D q).length
  rw [List.take_length] at this
  exact this
/-- one comes ahead of another -/
def ahd (D : Dt) (q : Sl → Bool) (e b : Nat) : Bool := decide (owS D q b * nd (D.sm e) < owS D q e * nd (D.sm b))
def insF (ah : Nat → Bool) (e : Nat) : Nat → (Nat → Nat) → (Nat → Nat)
  | 0, A => fun i => if i = 0 then e else A i
  | v + 1, A => if ah (A v) = true then insF ah e v (fun i => if i = v + 1 then A v else A i) else fun i => if i = v + 1 then e else A i
def lkF (D : Dt) (q : Sl → Bool) : Nat → Nat × (Nat → Nat)
  | 0 => (0, fun _ => 0)
  | j + 1 => if 0 < owS D q j then ((lkF D q j).1 + 1, insF (ahd D q j) j (lkF D q j).1 (lkF D q j).2) else lkF D q j
theorem insF_all {P : Nat → Prop} {ah : Nat → Bool} {e : Nat} (he : P e) : ∀ (v : Nat) (A : Nat → Nat) (n : Nat), v ≤ n → (∀ i, i ≤ n → i ≠ v → P (A i)) → ∀ i, i ≤ n → P (insF ah e v A i)
  | 0, A, n, hv, h, i, hi => by
    show P (if i = 0 then e else A i)
    split
    · exact he
    · exact h i hi (by assumption)
  | v + 1, A, n, hv, h, i, hi => by
    rw [insF]
    split
    · refine insF_all he v _ n (by omega) (fun k hk hkv => ?_) i hi
      show P (if k = v + 1 then A v else A k)
      split
      · exact h v (by omega) (by omega)
      · exact h k hk (by assumption)
    · show P (if i = v + 1 then e else A i)
      split
      · exact he
      · exact h i hi (by assumption)
theorem lkF_ok (D : Dt) (q : Sl → Bool) : ∀ j, (lkF D q j).1 ≤ j ∧ ∀ i, i < (lkF D q j).1 → (lkF D q j).2 i < j ∧ 0 < owS D q ((lkF D q j).2 i)
  | 0 => ⟨Nat.le_refl _, fun i hi => absurd hi (Nat.not_lt_zero _)⟩
  | j + 1 => by
    obtain ⟨h1, h2⟩ := lkF_ok D q j
    rw [lkF]
    split
    · rename_i hw
      refine ⟨by dsimp only; omega, fun i hi => ?_⟩
      exact insF_all (P := fun x => x < j + 1 ∧ 0 < owS D q x) ⟨by omega, hw⟩ (lkF D q j).1 _ (lkF D q j).1 (Nat.le_refl _) (fun k hk hkv => by
        have := h2 k (by omega)
        exact ⟨by omega, this.2⟩) i (by dsimp only at hi; omega)
    · exact ⟨by omega, fun i hi => by have := h2 i hi; exact ⟨by omega, this.2⟩⟩
/-- what is summed up over the first of them: figures, figures by weight, weights -/
def msF (D : Dt) (q : Sl → Bool) (A : Nat → Nat) : Nat → Nat × Nat × Nat
  | 0 => (0, 0, 0)
  | i + 1 => ((msF D q A i).1 + nd (D.sm (A i)), (msF D q A i).2.1 + owS D q (A i) * ((msF D q A i).1 + nd (D.sm (A i))), (msF D q A i).2.2 + owS D q (A i))
theorem msF_ok {D : Dt} {q : Sl → Bool} {A : Nat → Nat} (ok : okD D) : ∀ i, i ≤ 30 → (msF D q A i).1 ≤ 6 * i ∧ (msF D q A i).2.1 ≤ i * (1538757 * 180) ∧ (msF D q A i).2.2 ≤ i * 1538757
  | 0, _ => ⟨Nat.le_refl _, Nat.le_refl _, Nat.le_refl _⟩
  | i + 1, hi => by
    obtain ⟨h1, h2, h3⟩ := msF_ok (q := q) (A := A) ok i (by omega)
    have hn := nd_range (D.sm (A i))
    have hw := owS_le (q := q) ok (A i)
    rw [msF]
    have : owS D q (A i) * ((msF D q A i).1 + nd (D.sm (A i))) ≤ 1538757 * 180 := Nat.mul_le_mul hw (by omega)
    refine ⟨by dsimp only; omega, by dsimp only; rw [Nat.add_mul]; omega, by dsimp only; rw [Nat.add_mul]; omega⟩
def lkN (D : Dt) (q : Sl → Bool) : Nat := (lkF D q D.1).1
def lkA (D : Dt) (q : Sl → Bool) : Nat → Nat := (lkF D q D.1).2
