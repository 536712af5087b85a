/-! DZ: a sum that 0.0 leaves alone stays so when something is added -/
theorem dz_nz {A : Nat} (hA : 0 < A) {e : Int} (he : Jvm.FP.Core.b64.qmin ≤ e) {s t : Bool} {q : Int} (h : Jvm.FP.Core.roundRatio Jvm.FP.Core.b64 s A 1 e = .fin t 0 q) : False := by
  have h1 : 1 ≤ Jvm.FP.Core.nearest (Jvm.FP.Core.unitsNum A e (Jvm.FP.Core.quantum Jvm.FP.Core.b64 A 1 e)) (Jvm.FP.Core.unitsDen 1 e (Jvm.FP.Core.quantum Jvm.FP.Core.b64 A 1 e)) := by
    rcases Jvm.FP.Core.quantum_not_below (f := Jvm.FP.Core.b64) hA (show 0 < 1 by decide) e with h2 | h2
    · refine Jvm.FP.Core.nearest_ge (Jvm.FP.Core.unitsDen_pos (by decide) ..) ?_
      rw [h2]
      unfold Jvm.FP.Core.unitsNum Jvm.FP.Core.unitsDen
      rw [show (Jvm.FP.Core.b64.qmin - e).toNat = 0 by omega]
      have := Nat.two_pow_pos (e - Jvm.FP.Core.b64.qmin).toNat
      have := Nat.mul_pos hA this
      omega
    · refine Jvm.FP.Core.nearest_ge (Jvm.FP.Core.unitsDen_pos (by decide) ..) ?_
      rw [show (Jvm.FP.Core.b64.p : Int) - 1 = ((Jvm.FP.Core.b64.p - 1 : Nat) : Int) from rfl, ← Jvm.FP.Core.units_below] at h2
      refine Nat.le_trans (Nat.mul_le_mul_right _ ?_) (Nat.le_of_not_lt h2)
      exact Nat.two_pow_pos _
  unfold Jvm.FP.Core.roundRatio at h
  rw [if_neg (by omega)] at h
  unfold Jvm.FP.Core.roundAt Jvm.FP.Core.settle Jvm.FP.Core.bound at h
  have h3 := Jvm.FP.Core.tails_two Jvm.FP.Core.good_b64
  split at h
  · split at h
    · injection h with _ h4 _; omega
    · cases h
  · split at h
    · injection h with _ h4 _; omega
    · cases h
/-- a negative zero -/
def dzN (d : Jvm.FP.Core.Datum) : Prop := match d with
  | .fin true 0 _ => True
  | _ => False
theorem dz_sg {s t : Bool} {a b : Nat} (h : Jvm.FP.Core.signed s a + Jvm.FP.Core.signed t b = 0) (hs : s = true) (ht : t = true) : a = 0 := by
  subst hs; subst ht
  simp only [Jvm.FP.Core.signed, if_true] at h
  omega
/-- only two negative zeros sum to one -/
theorem dz_sum {X Y : Jvm.FP.Core.Datum} (fX : Jvm.FP.Core.fits Jvm.FP.Core.b64 X) (fY : Jvm.FP.Core.fits Jvm.FP.Core.b64 Y) (h : dzN (Jvm.FP.Core.round Jvm.FP.Core.b64 (Jvm.FP.Core.exactSum X Y))) : dzN X := by
  cases X with
  | nan => exact h.elim
  | inf s => cases Y with
    | nan => exact h.elim
    | inf t => by_cases e : s = t
               · rw [show Jvm.FP.Core.exactSum (.inf s) (.inf t) = .inf s from if_pos e] at h; exact h.elim
               · rw [show Jvm.FP.Core.exactSum (.inf s) (.inf t) = .nan from if_neg e] at h; exact h.elim
    | fin t d r => exact h.elim
  | fin s c q => cases Y with
    | nan => exact h.elim
    | inf t => exact h.elim
    | fin t d r =>
      have hq := fX.2.1
      have hr := fY.2.1
      simp only [Jvm.FP.Core.exactSum, Jvm.FP.Core.round] at h
      by_cases hv : Jvm.FP.Core.sumUnits s c q t d r (min q r) = 0
      · rw [hv] at h
        simp only [Jvm.FP.Core.roundRatio, Int.natAbs_zero, if_true, Jvm.FP.Core.sumSign] at h
        have hst : (s && t) = true := by
          cases e : (s && t) with
          | true => rfl
          | false => rw [e] at h; exact h.elim
        have hs : s = true := by cases s <;> simp_all
        have ht : t = true := by cases t <;> simp_all
        have h0 := dz_sg hv hs ht
        unfold Jvm.FP.Core.inUnits at h0
        have hc : c = 0 := by
          rcases Nat.mul_eq_zero.mp h0 with h | h
          · exact h
          · have := Nat.two_pow_pos (q - min q r).toNat; omega
        rw [hs, hc]
        trivial
      · exfalso
        have hz : ∀ (t' : Bool) (q' : Int), Jvm.FP.Core.roundRatio Jvm.FP.Core.b64 (Jvm.FP.Core.sumSign s t (Jvm.FP.Core.sumUnits s c q t d r (min q r))) (Jvm.FP.Core.sumUnits s c q t d r (min q r)).natAbs 1 (min q r) = .fin t' 0 q' → False := fun t' q' => dz_nz (by omega) (by omega)
        revert h hz
        generalize Jvm.FP.Core.roundRatio _ _ _ _ _ = z
        intro h hz
        cases z with
        | nan => exact h.elim
        | inf _ => exact h.elim
        | fin u k j => cases u with
          | false => exact h.elim
          | true => cases k with
            | zero => exact hz _ _ rfl
            | succ k => exact h.elim
/-- what fits and isn't a negative zero is left alone by 0.0 -/
theorem dz_id {X : Jvm.FP.Core.Datum} (fX : Jvm.FP.Core.fits Jvm.FP.Core.b64 X) (h : ¬ dzN X) : Jvm.FP.Core.round Jvm.FP.Core.b64 (Jvm.FP.Core.exactSum X (.fin false 0 Jvm.FP.Core.b64.qmin)) = X := by
  cases X with
  | nan => rfl
  | inf s => rfl
  | fin s c q =>
    have hq := fX.2.1
    have hm : min q Jvm.FP.Core.b64.qmin = Jvm.FP.Core.b64.qmin := by omega
    simp only [Jvm.FP.Core.exactSum, Jvm.FP.Core.round]
    rw [hm]
    have hu : Jvm.FP.Core.sumUnits s c q false 0 Jvm.FP.Core.b64.qmin Jvm.FP.Core.b64.qmin = Jvm.FP.Core.signed s (c * 2 ^ (q - Jvm.FP.Core.b64.qmin).toNat) := by
      unfold Jvm.FP.Core.sumUnits Jvm.FP.Core.inUnits
      rw [Nat.zero_mul]
      exact Int.add_zero _
    rw [hu]
    have hp := Nat.two_pow_pos (q - Jvm.FP.Core.b64.qmin).toNat
    have hA : (Jvm.FP.Core.signed s (c * 2 ^ (q - Jvm.FP.Core.b64.qmin).toNat)).natAbs = c * 2 ^ (q - Jvm.FP.Core.b64.qmin).toNat := by
      unfold Jvm.FP.Core.signed
      split
      · rw [Int.natAbs_neg]; rfl
      · rfl
    rw [hA]
    have hS : Jvm.FP.Core.sumSign s false (Jvm.FP.Core.signed s (c * 2 ^ (q - Jvm.FP.Core.b64.qmin).toNat)) = s := by
      unfold Jvm.FP.Core.sumSign
      by_cases hc : c = 0
      · subst hc
        rw [Nat.zero_mul]
        cases s with
        | false => rfl
        | true => exact (h trivial).elim
      · have h9 := Nat.mul_pos (show 0 < c by omega) hp
        revert h9
        generalize c * 2 ^ (q - Jvm.FP.Core.b64.qmin).toNat = z
        intro h9
        cases s with
        | false =>
          show (if (z : Int) = 0 then _ else decide ((z : Int) < 0)) = false
          rw [if_neg (by omega)]
          exact decide_eq_false (by omega)
        | true =>
          show (if -(z : Int) = 0 then _ else decide (-(z : Int) < 0)) = true
          rw [if_neg (by omega)]
          exact decide_eq_true (by omega)
    rw [hS]
    refine Jvm.FP.Core.roundRatio_exact Jvm.FP.Core.good_b64 (by decide) fX ?_
    rw [show (Jvm.FP.Core.b64.qmin - q).toNat = 0 by omega, Nat.pow_zero, Nat.mul_one, Nat.mul_one]
theorem dz_0 : Jvm.FP.Core.val64 FP.dconst0 = .fin false 0 Jvm.FP.Core.b64.qmin := by decide
theorem dz_val (x y : UInt64) : FP.dadd x y = Jvm.FP.Core.of64 (Jvm.FP.Core.round Jvm.FP.Core.b64 (Jvm.FP.Core.exactSum (Jvm.FP.Core.val64 x) (Jvm.FP.Core.val64 y))) := rfl
theorem DZ_ok : DZ := by
  intro x y hx
  have f := Jvm.FP.Core.round_fits Jvm.FP.Core.good_b64 (Jvm.FP.Core.exactSum (Jvm.FP.Core.val64 x) (Jvm.FP.Core.val64 y))
  unfold Qz at hx ⊢
  have hX : ¬ dzN (Jvm.FP.Core.val64 x) := by
    intro hn
    have e : Jvm.FP.Core.val64 x = Jvm.FP.Core.round Jvm.FP.Core.b64 (Jvm.FP.Core.exactSum (.fin false 0 Jvm.FP.Core.b64.qmin) (Jvm.FP.Core.val64 x)) := by
      have := Jvm.FP.Core.val64_dadd x FP.dconst0
      rw [dz_0, Jvm.FP.Core.exactSum_comm] at this
      rw [← this]
      exact congrArg Jvm.FP.Core.val64 hx.symm
    rw [e] at hn
    exact dz_sum (by exact Jvm.FP.Core.zero_fits Jvm.FP.Core.good_b64 false) (Jvm.FP.Core.val64_fits x) hn
  rw [dz_val (FP.dadd x y) FP.dconst0, dz_val x y, Jvm.FP.Core.val64_of64 f, dz_0, dz_id f (fun hn => hX (dz_sum (Jvm.FP.Core.val64_fits x) (Jvm.FP.Core.val64_fits y) hn))]
