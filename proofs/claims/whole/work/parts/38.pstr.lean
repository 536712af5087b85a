/-! STRENGTHS. DZ: a sum that 0.0 leaves alone stays so when something is added (closed by the library's laws of doubles in a later part) -/
def Qz (x : UInt64) : Prop := FP.dadd x FP.dconst0 = x
def DZ : Prop := ∀ x y : UInt64, Qz x → Qz (FP.dadd x y)
theorem Qz_0 : Qz FP.dconst0 := by unfold Qz; decide +kernel
theorem wiA_self {m : Nat} {cp : Nat → Nat → Nat} (B : cB m cp) (i : Nat) : wiA m cp i i = 0 := by
  unfold wiA
  rw [fb_sm_cong (g := fun _ => 0) (fun c hc => by
    have := (B.2 c hc).2.2.2.1
    show wnD cp c i i = 0
    unfold wnD
    rw [if_neg (by omega)]), fb_sm_const, Nat.mul_zero]
theorem tiA_self {m : Nat} {cp : Nat → Nat → Nat} (B : cB m cp) (i : Nat) : tiA m cp i i = 0 := by
  unfold tiA
  rw [fb_sm_cong (g := fun _ => 0) (fun c hc => by
    have := (B.2 c hc).2.2.2.1
    show tiD cp c i i = 0
    unfold tiD
    rw [if_neg (by omega)]), fb_sm_const, Nat.mul_zero]
/-- how often two samples met -/
def mtN (m : Nat) (cp : Nat → Nat → Nat) (i j : Nat) : Nat := wiA m cp i j + wiA m cp j i + tiA m cp i j
def wnV (m : Nat) (cp : Nat → Nat → Nat) (n i : Nat) : UInt64 := FP.dadd (FP.i2d (nI (fb_sm (fun j => wiA m cp i j) n))) (FP.dmul (4602678819172646912 : UInt64) (FP.i2d (nI (fb_sm (fun j => tiA m cp i j) n))))
def pos0 (x : UInt64) : Prop := Op.cmpValue (FP.dcmp x FP.dconst0) CmpOp.l ≤ 0
theorem pos0_iff (x : UInt64) : pos0 x ↔ Op.cmpValue (FP.dcmp x FP.dconst0) CmpOp.l ≤ 0 := Iff.rfl
/-- one addend of the sum of a sample's meetings -/
def fsS (mt : Nat → Nat → Nat) (v : Nat → UInt64) (i j : Nat) (s : UInt64) : UInt64 := if nI (mt i j) ≤ 0 then s else if Op.cmpValue (FP.dcmp (FP.dadd (v i) (v j)) FP.dconst0) CmpOp.l ≤ 0 then s else FP.dadd s (FP.ddiv (FP.i2d (nI (mt i j))) (FP.dadd (v i) (v j)))
def exS (mt : Nat → Nat → Nat) (v : Nat → UInt64) (i j : Nat) (s : UInt64) : UInt64 := if nI (mt i j) ≤ 0 then s else if Op.cmpValue (FP.dcmp (FP.dadd (v i) (v j)) FP.dconst0) CmpOp.l ≤ 0 then s else FP.dadd s (FP.ddiv (FP.dmul (FP.i2d (nI (mt i j))) (v i)) (FP.dadd (v i) (v j)))
theorem fsS_Q (hq : DZ) {mt : Nat → Nat → Nat} {v : Nat → UInt64} {i j : Nat} {s : UInt64} (h : Qz s) : Qz (fsS mt v i j s) := by
  unfold fsS
  split
  · exact h
  · split
    · exact h
    · exact hq _ _ h
theorem exS_Q (hq : DZ) {mt : Nat → Nat → Nat} {v : Nat → UInt64} {i j : Nat} {s : UInt64} (h : Qz s) : Qz (exS mt v i j s) := by
  unfold exS
  split
  · exact h
  · split
    · exact h
    · exact hq _ _ h
def fsV (mt : Nat → Nat → Nat) (v : Nat → UInt64) (n i : Nat) : UInt64 := itr (fun j s => fsS mt v i j s) 0 n FP.dconst0
def exV (mt : Nat → Nat → Nat) (v : Nat → UInt64) (n i : Nat) : UInt64 := itr (fun j s => exS mt v i j s) 0 n FP.dconst0
theorem itr_Q {g : Nat → UInt64 → UInt64} (h : ∀ i s, Qz s → Qz (g i s)) (a : Nat) : ∀ d x, Qz x → Qz (itr g a d x)
  | 0, _, hx => hx
  | d + 1, x, hx => h _ _ (itr_Q h a d x hx)
def nwV (mt : Nat → Nat → Nat) (wn v : Nat → UInt64) (n i : Nat) : UInt64 := if Op.cmpValue (FP.dcmp (fsV mt v n i) FP.dconst0) CmpOp.l ≤ 0 then v i else FP.ddiv (wn i) (fsV mt v n i)
def ttV (f : Nat → UInt64) (n : Nat) : UInt64 := itr (fun i s => FP.dadd s (f i)) 0 n FP.dconst0
def rnV (mt : Nat → Nat → Nat) (wn v : Nat → UInt64) (n : Nat) : Nat → UInt64 := fun i => if Op.cmpValue (FP.dcmp (ttV (nwV mt wn v n) n) FP.dconst0) CmpOp.l ≤ 0 then nwV mt wn v n i else FP.dmul (nwV mt wn v n i) (FP.ddiv (FP.i2d (nI n)) (ttV (nwV mt wn v n) n))
def stV (mt : Nat → Nat → Nat) (wn : Nat → UInt64) (n : Nat) : Nat → Nat → UInt64
  | 0 => fun _ => FP.dconst1
  | k + 1 => rnV mt wn (stV mt wn n k) n
theorem fsV_cong {mt : Nat → Nat → Nat} {v u : Nat → UInt64} {n i : Nat} (hi : i < n) (h : ∀ j, j < n → v j = u j) : fsV mt v n i = fsV mt u n i := itr_cong (fun j s _ hj => by
  show fsS mt v i j s = fsS mt u i j s
  unfold fsS
  rw [h i hi, h j (by omega)])
theorem exV_cong {mt : Nat → Nat → Nat} {v u : Nat → UInt64} {n i : Nat} (hi : i < n) (h : ∀ j, j < n → v j = u j) : exV mt v n i = exV mt u n i := itr_cong (fun j s _ hj => by
  show exS mt v i j s = exS mt u i j s
  unfold exS
  rw [h i hi, h j (by omega)])
theorem ttV_cong {v u : Nat → UInt64} {n : Nat} (h : ∀ j, j < n → v j = u j) : ttV v n = ttV u n := itr_cong (fun j s _ hj => by
  show FP.dadd s (v j) = FP.dadd s (u j)
  rw [h j (by omega)])
/-! the reference -/
/-- its table of meetings -/
def isN (h : Nat → Nat → Int32) (mt : Nat → Nat → Nat) (n : Nat) : Prop := ∀ i j, i < n → j < n → h 38 (8 * i + j) = nI (mt i j)
theorem m_layWins {h : Nat → Nat → Int32} {D : Nat → Nat → UInt64} {m : Nat} {cp : Nat → Nat → Nat} (B : cB m cp) (H : isM h m cp) {n : Nat} (h1 : h 1 0 = nI n) (hn : n ≤ 8) : ∃ h2 D2, M_layWins h D = some (h2, D2) ∧ eqx [38] h h2 ∧ eqx [37] D D2 ∧ isN h2 (mtN m cp) n ∧ ∀ i, i < n → D2 37 i = wnV m cp n i := by
  have inner : ∀ i g, i < n → eqx [38] h g → ∃ r, lp (fun q => M_layWins_s2 (nI i) q.1 q.2.1 q.2.2.1 q.2.2.2) FU ((0 : Int32), (0 : Int32), (0 : Int32), g) = some r ∧ (r.1 = nI (fb_sm (fun j => wiA m cp i j) n) ∧ r.2.1 = nI (fb_sm (fun j => tiA m cp i j) n) ∧ eqx [38] h r.2.2 ∧ (∀ a b, a ≠ i → b < 8 → r.2.2 38 (8 * a + b) = g 38 (8 * a + b)) ∧ ∀ b, b < n → r.2.2 38 (8 * i + b) = nI (mtN m cp i b)) := by
    intro i g hi hg
    refine lp_iv (st := fun q => M_layWins_s2 (nI i) q.1 q.2.1 q.2.2.1 q.2.2.2) (fun j q => q.1 = nI (fb_sm (fun j => wiA m cp i j) j) ∧ q.2.1 = nI (fb_sm (fun j => tiA m cp i j) j) ∧ q.2.2.1 = nI j ∧ eqx [38] h q.2.2.2 ∧ (∀ a b, a ≠ i → b < 8 → q.2.2.2 38 (8 * a + b) = g 38 (8 * a + b)) ∧ ∀ b, b < j → q.2.2.2 38 (8 * i + b) = nI (mtN m cp i b)) _ 0 n (by omega) (by omega) (fun j q _ hj ⟨q1, q2, q3, q4, q5, q6⟩ => ?_) (fun q ⟨q1, q2, q3, q4, q5, q6⟩ => ?_) _ ⟨rfl, rfl, rfl, hg, fun _ _ _ _ => rfl, fun b hb => by omega⟩
    · have Hq := isM_x H q4 (by decide) (by decide) (by decide) (by decide) (by decide)
      have q10 : q.2.2.2 1 0 = nI n := by rw [q4 1 (by decide)]; exact h1
      have o1 : (if nI i = nI j then (some (0 : Int32)) else (bd (M_wins q.2.2.2 (nI i) (nI j)) fun r75 => some r75)) = some (nI (wiA m cp i j)) := by
        by_cases c : i = j
        · subst c
          rw [if_pos rfl, wiA_self B]
          rfl
        · rw [if_neg (fun e => c ((nE (by omega) (by omega)).mp e)), bd_of (m_wins Hq B (by omega) (by omega))]
      have o2 : (if nI i = nI j then (some (0 : Int32)) else (bd (M_tiesOf q.2.2.2 (nI i) (nI j)) fun r70 => some r70)) = some (nI (tiA m cp i j)) := by
        by_cases c : i = j
        · subst c
          rw [if_pos rfl, tiA_self B]
          rfl
        · rw [if_neg (fun e => c ((nE (by omega) (by omega)).mp e)), bd_of (m_tiesOf Hq B (by omega) (by omega))]
      have o3 : (if nI i = nI j then (some (0 : Int32)) else (bd (M_wins q.2.2.2 (nI j) (nI i)) fun r65 => some ((nI (wiA m cp i j) + nI (tiA m cp i j)) + r65))) = some (nI (mtN m cp i j)) := by
        unfold mtN
        by_cases c : i = j
        · subst c
          rw [if_pos rfl, wiA_self B, tiA_self B]
          rfl
        · rw [if_neg (fun e => c ((nE (by omega) (by omega)).mp e)), bd_of (m_wins Hq B (by omega) (by omega)), nI_add, nI_add, show wiA m cp i j + tiA m cp i j + wiA m cp j i = wiA m cp i j + wiA m cp j i + tiA m cp i j by omega]
      refine ⟨(nI (fb_sm (fun j => wiA m cp i j) (j + 1)), nI (fb_sm (fun j => tiA m cp i j) (j + 1)), nI (j + 1), wr q.2.2.2 38 (nI (8 * i + j)) (nI (mtN m cp i j))), ?_, rfl, rfl, rfl, eqx_tr q4 (eqx_wr (by decide)), fun a b ha hb => ?_, fun b hb => ?_⟩
      · show M_layWins_s2 (nI i) q.1 q.2.1 q.2.2.1 q.2.2.2 = _
        unfold M_layWins_s2
        rw [q1, q2, q3, q10, if_neg (nI_ge hj (by omega)), bd_of o1, bd_of o2]
        dsimp only [nm]
        rw [bd_of o3, c8_row, ri_k (show 8 * i + j < 64 by omega) (by decide), nI_add, nI_add, nI_1, fb_sm_succ, fb_sm_succ]
      · dsimp only
        rw [wr_nI _ _ (show 8 * i + j < 2 ^ 31 by omega), va_up_self, up8 _ _ _ _ _ _ (by omega) hb, if_neg (by omega)]
        exact q5 a b ha hb
      · dsimp only
        rw [wr_nI _ _ (show 8 * i + j < 2 ^ 31 by omega), va_up_self, up8 _ _ _ _ _ _ (by omega) (by omega)]
        by_cases u : b = j
        · rw [if_pos ⟨rfl, u⟩, u]
        · rw [if_neg (by omega)]
          exact q6 b (by omega)
    · have q10 : q.2.2.2 1 0 = nI n := by rw [q4 1 (by decide)]; exact h1
      refine ⟨(q.1, q.2.1, q.2.2.2), ?_, q1, q2, q4, q5, q6⟩
      show M_layWins_s2 (nI i) q.1 q.2.1 q.2.2.1 q.2.2.2 = _
      unfold M_layWins_s2
      rw [q3, q10, if_pos (nI_le (Nat.le_refl _) (by omega))]
  obtain ⟨r, e1, e2, e3, e4, e5⟩ := lp_iv (st := fun q => M_layWins_s1 q.1 q.2.1 q.2.2) (fun i q => q.1 = nI i ∧ eqx [38] h q.2.1 ∧ eqx [37] D q.2.2 ∧ (∀ a b, a < i → b < n → q.2.1 38 (8 * a + b) = nI (mtN m cp a b)) ∧ ∀ a, a < i → q.2.2 37 a = wnV m cp n a) (fun r => eqx [38] h r.1 ∧ eqx [37] D r.2 ∧ isN r.1 (mtN m cp) n ∧ ∀ a, a < n → r.2 37 a = wnV m cp n a) 0 n (by omega) (by omega) (fun i q _ hi ⟨q1, q2, q3, q4, q5⟩ => by
      have q10 : q.2.1 1 0 = nI n := by rw [q2 1 (by decide)]; exact h1
      obtain ⟨r, g1, g2, g3, g4, g5, g6⟩ := inner i q.2.1 hi q2
      refine ⟨(nI (i + 1), r.2.2, wr q.2.2 37 (nI i) (wnV m cp n i)), ?_, rfl, g4, eqx_tr q3 (eqx_wr (by decide)), fun a b ha hb => ?_, fun a ha => ?_⟩
      · show M_layWins_s1 q.1 q.2.1 q.2.2 = _
        unfold M_layWins_s1
        rw [q1, q10, if_neg (nI_ge hi (by omega)), bd3_of (a := r.1) (b := r.2.1) (c := r.2.2) g1, ri_k (show i < 8 by omega) (by decide), g2, g3]
        dsimp only [nm]
        rw [nI_1]
        rfl
      · by_cases u : a = i
        · subst u
          exact g6 b hb
        · dsimp only
          rw [g5 a b u (by omega)]
          exact q4 a b (by omega) hb
      · dsimp only
        rw [wr_ap, if_pos rfl, nI_clamp (by omega)]
        by_cases u : a = i
        · rw [if_pos u, u]
        · rw [if_neg u]
          exact q5 a (by omega)) (fun q ⟨q1, q2, q3, q4, q5⟩ => by
      have q10 : q.2.1 1 0 = nI n := by rw [q2 1 (by decide)]; exact h1
      refine ⟨(q.2.1, q.2.2), ?_, q2, q3, fun a b ha hb => q4 a b ha hb, q5⟩
      show M_layWins_s1 q.1 q.2.1 q.2.2 = _
      unfold M_layWins_s1
      rw [q1, q10, if_pos (nI_le (Nat.le_refl _) (by omega))]) ((0 : Int32), h, D) ⟨rfl, eqx_rf, eqx_rf, fun a b ha => by omega, fun a ha => by omega⟩
  refine ⟨r.1, r.2, ?_, e2, e3, e4, e5⟩
  unfold M_layWins
  rw [bd2_of (a := r.1) (b := r.2) e1]
theorem m_freshOf (hq : DZ) {h : Nat → Nat → Int32} {D : Nat → Nat → UInt64} {mt : Nat → Nat → Nat} {n : Nat} (h1 : h 1 0 = nI n) (hn : n ≤ 8) (N : isN h mt n) {wn v : Nat → UInt64} (hw : ∀ i, i < n → D 37 i = wn i) (hv : ∀ i, i < n → D 35 i = v i) {i : Nat} (hi : i < n) : M_freshOf h D (nI i) = some (nwV mt wn v n i) := by
  have e := lp_iv (st := fun q => M_freshOf_s1 (nI i) h D q.1 q.2) (fun j q => q.2 = nI j ∧ q.1 = itr (fun j s => fsS mt v i j s) 0 j FP.dconst0) (fun r => r = fsV mt v n i) 0 n (by omega) (by omega) (fun j q _ hj ⟨q1, q2⟩ => by
      have hQ : Qz (itr (fun j s => fsS mt v i j s) 0 j FP.dconst0) := itr_Q (fun _ _ h => fsS_Q hq h) 0 j _ Qz_0
      obtain ⟨s, hs⟩ : ∃ s, s = itr (fun j s => fsS mt v i j s) 0 j FP.dconst0 := ⟨_, rfl⟩
      rw [← hs] at q2 hQ
      refine ⟨(fsS mt v i j s, nI (j + 1)), ?_, rfl, by
        dsimp only
        rw [itr, Nat.zero_add, ← hs]⟩
      show M_freshOf_s1 (nI i) h D q.1 q.2 = _
      unfold M_freshOf_s1
      rw [q1, q2, h1, if_neg (nI_ge hj (by omega)), ri_k (show i < 8 by omega) (by decide), ri_k (show j < 8 by omega) (by decide), nI_clamp (show i < 2 ^ 31 by omega), nI_clamp (show j < 2 ^ 31 by omega), hv i hi, hv j hj]
      dsimp only [nm]
      rw [c8_row, ri_k (show 8 * i + j < 64 by omega) (by decide), nI_clamp (show 8 * i + j < 2 ^ 31 by omega), N i j hi hj, ri_k (show 8 * i + j < 64 by omega) (by decide), nI_1]
      unfold fsS
      by_cases c1 : nI (mt i j) ≤ 0
      · rw [if_pos c1, if_pos c1]
        show some (Sum.inl (FP.dadd s FP.dconst0, _)) = _
        rw [show FP.dadd s FP.dconst0 = s from hQ]
      · rw [if_neg c1, if_neg c1]
        by_cases c2 : Op.cmpValue (FP.dcmp (FP.dadd (v i) (v j)) FP.dconst0) CmpOp.l ≤ 0
        · rw [if_pos c2, if_pos c2]
          show some (Sum.inl (FP.dadd s FP.dconst0, _)) = _
          rw [show FP.dadd s FP.dconst0 = s from hQ]
        · rw [if_neg c2, if_neg c2]
          rfl) (fun q ⟨q1, q2⟩ => by
      refine ⟨q.1, ?_, q2⟩
      show M_freshOf_s1 (nI i) h D q.1 q.2 = _
      unfold M_freshOf_s1
      rw [q1, h1, if_pos (nI_le (Nat.le_refl _) (by omega))]) (FP.dconst0, (0 : Int32)) ⟨rfl, rfl⟩
  obtain ⟨r, e1, e2⟩ := e
  unfold M_freshOf
  dsimp only [nm]
  rw [bd_of e1, e2, ri_k (show i < 8 by omega) (by decide), ri_k (show i < 8 by omega) (by decide), nI_clamp (show i < 2 ^ 31 by omega), hv i hi, hw i hi]
  unfold nwV
  by_cases c : Op.cmpValue (FP.dcmp (fsV mt v n i) FP.dconst0) CmpOp.l ≤ 0
  · rw [if_pos c, if_pos c]
  · rw [if_neg c, if_neg c]
theorem m_expected (hq : DZ) {h : Nat → Nat → Int32} {D : Nat → Nat → UInt64} {mt : Nat → Nat → Nat} {n : Nat} (h1 : h 1 0 = nI n) (hn : n ≤ 8) (N : isN h mt n) {v : Nat → UInt64} (hv : ∀ i, i < n → D 35 i = v i) {i : Nat} (hi : i < n) : M_expected h D (nI i) = some (exV mt v n i) := by
  have e := lp_iv (st := fun q => M_expected_s1 (nI i) h D q.1 q.2) (fun j q => q.2 = nI j ∧ q.1 = itr (fun j s => exS mt v i j s) 0 j FP.dconst0) (fun r => r = exV mt v n i) 0 n (by omega) (by omega) (fun j q _ hj ⟨q1, q2⟩ => by
      have hQ : Qz (itr (fun j s => exS mt v i j s) 0 j FP.dconst0) := itr_Q (fun _ _ h => exS_Q hq h) 0 j _ Qz_0
      obtain ⟨s, hs⟩ : ∃ s, s = itr (fun j s => exS mt v i j s) 0 j FP.dconst0 := ⟨_, rfl⟩
      rw [← hs] at q2 hQ
      refine ⟨(exS mt v i j s, nI (j + 1)), ?_, rfl, by
        dsimp only
        rw [itr, Nat.zero_add, ← hs]⟩
      show M_expected_s1 (nI i) h D q.1 q.2 = _
      unfold M_expected_s1
      rw [q1, q2, h1, if_neg (nI_ge hj (by omega)), ri_k (show i < 8 by omega) (by decide), ri_k (show j < 8 by omega) (by decide), nI_clamp (show i < 2 ^ 31 by omega), nI_clamp (show j < 2 ^ 31 by omega), hv i hi, hv j hj]
      dsimp only [nm]
      rw [c8_row, ri_k (show 8 * i + j < 64 by omega) (by decide), nI_clamp (show 8 * i + j < 2 ^ 31 by omega), N i j hi hj, ri_k (show 8 * i + j < 64 by omega) (by decide), ri_k (show i < 8 by omega) (by decide), nI_1]
      unfold exS
      by_cases c1 : nI (mt i j) ≤ 0
      · rw [if_pos c1, if_pos c1]
        show some (Sum.inl (FP.dadd s FP.dconst0, _)) = _
        rw [show FP.dadd s FP.dconst0 = s from hQ]
      · rw [if_neg c1, if_neg c1]
        by_cases c2 : Op.cmpValue (FP.dcmp (FP.dadd (v i) (v j)) FP.dconst0) CmpOp.l ≤ 0
        · rw [if_pos c2, if_pos c2]
          show some (Sum.inl (FP.dadd s FP.dconst0, _)) = _
          rw [show FP.dadd s FP.dconst0 = s from hQ]
        · rw [if_neg c2, if_neg c2]
          rfl) (fun q ⟨q1, q2⟩ => by
      refine ⟨q.1, ?_, q2⟩
      show M_expected_s1 (nI i) h D q.1 q.2 = _
      unfold M_expected_s1
      rw [q1, h1, if_pos (nI_le (Nat.le_refl _) (by omega))]) (FP.dconst0, (0 : Int32)) ⟨rfl, rfl⟩
  obtain ⟨r, e1, e2⟩ := e
  unfold M_expected
  dsimp only [nm]
  rw [bd_of e1, e2]
theorem m_oneRound (hq : DZ) {h : Nat → Nat → Int32} {D : Nat → Nat → UInt64} {mt : Nat → Nat → Nat} {n : Nat} (h1 : h 1 0 = nI n) (hn : n ≤ 8) (N : isN h mt n) {wn v : Nat → UInt64} (hw : ∀ i, i < n → D 37 i = wn i) (hv : ∀ i, i < n → D 35 i = v i) : ∃ D2, M_oneRound h D = some D2 ∧ eqx [35, 36] D D2 ∧ ∀ i, i < n → D2 35 i = rnV mt wn v n i := by
  obtain ⟨D7, a1, a2, a3⟩ := lp_iv (st := fun q => M_oneRound_s1 h q.1 q.2) (fun i q => q.1 = nI i ∧ eqx [36] D q.2 ∧ ∀ t, t < i → q.2 36 t = nwV mt wn v n t) (fun r => eqx [36] D r ∧ ∀ t, t < n → r 36 t = nwV mt wn v n t) 0 n (by omega) (by omega) (fun i q _ hi ⟨q1, q2, q3⟩ => by
      have hf := m_freshOf hq (D := q.2) h1 hn N (wn := wn) (v := v) (fun j hj => by rw [q2 37 (by decide)]; exact hw j hj) (fun j hj => by rw [q2 35 (by decide)]; exact hv j hj) hi
      refine ⟨(nI (i + 1), wr q.2 36 (nI i) (nwV mt wn v n i)), ?_, rfl, eqx_tr q2 (eqx_wr (by decide)), fun t ht => ?_⟩
      · show M_oneRound_s1 h q.1 q.2 = _
        unfold M_oneRound_s1
        rw [q1, h1, if_neg (nI_ge hi (by omega)), bd_of hf, ri_k (show i < 8 by omega) (by decide)]
        dsimp only [nm]
        rw [nI_1]
      · dsimp only
        rw [wr_ap, if_pos rfl, nI_clamp (by omega)]
        by_cases u : t = i
        · rw [if_pos u, u]
        · rw [if_neg u]
          exact q3 t (by omega)) (fun q ⟨q1, q2, q3⟩ => by
      refine ⟨q.2, ?_, q2, q3⟩
      show M_oneRound_s1 h q.1 q.2 = _
      unfold M_oneRound_s1
      rw [q1, h1, if_pos (nI_le (Nat.le_refl _) (by omega))]) ((0 : Int32), D) ⟨rfl, eqx_rf, fun t ht => by omega⟩
  have b1 := lp_A (st := fun q => M_oneRound_s2 h D7 q.1 q.2) (fun i s => FP.dadd s (D7 36 i)) (fun s => s) 0 n FP.dconst0 (by omega) (by omega) (fun i x _ hi => by
    show M_oneRound_s2 h D7 x (nI i) = _
    unfold M_oneRound_s2
    rw [h1, if_neg (nI_ge hi (by omega)), ri_k (show i < 8 by omega) (by decide), nI_clamp (show i < 2 ^ 31 by omega)]
    dsimp only [nm]
    rw [nI_1]) (fun x => by
    show M_oneRound_s2 h D7 x (nI n) = _
    unfold M_oneRound_s2
    rw [h1, if_pos (nI_le (Nat.le_refl _) (by omega))])
  have b2 : itr (fun i s => FP.dadd s (D7 36 i)) 0 (n - 0) FP.dconst0 = ttV (nwV mt wn v n) n := ttV_cong (v := fun i => D7 36 i) (u := nwV mt wn v n) a3
  rw [b2] at b1
  obtain ⟨D2, c1, c2, c3⟩ := lp_iv (st := fun q => M_oneRound_s3 (ttV (nwV mt wn v n) n) h q.1 q.2) (fun i q => q.1 = nI i ∧ eqx [35] D7 q.2 ∧ ∀ t, t < i → q.2 35 t = rnV mt wn v n t) (fun r => eqx [35] D7 r ∧ ∀ t, t < n → r 35 t = rnV mt wn v n t) 0 n (by omega) (by omega) (fun i q _ hi ⟨q1, q2, q3⟩ => by
      have hb : (if Op.cmpValue (FP.dcmp (ttV (nwV mt wn v n) n) FP.dconst0) CmpOp.l ≤ 0 then (ri 8 (nI i) <| some (q.2 36 (nI i).toNatClampNeg)) else (ri 8 (nI i) <| some (FP.dmul (q.2 36 (nI i).toNatClampNeg) (FP.ddiv (FP.i2d (h 1 0)) (ttV (nwV mt wn v n) n))))) = some (rnV mt wn v n i) := by
        rw [ri_k (show i < 8 by omega) (by decide), ri_k (show i < 8 by omega) (by decide), nI_clamp (show i < 2 ^ 31 by omega), q2 36 (by decide), a3 i hi, h1]
        unfold rnV
        by_cases c : Op.cmpValue (FP.dcmp (ttV (nwV mt wn v n) n) FP.dconst0) CmpOp.l ≤ 0
        · rw [if_pos c, if_pos c]
        · rw [if_neg c, if_neg c]
      refine ⟨(nI (i + 1), wr q.2 35 (nI i) (rnV mt wn v n i)), ?_, rfl, eqx_tr q2 (eqx_wr (by decide)), fun t ht => ?_⟩
      · show M_oneRound_s3 (ttV (nwV mt wn v n) n) h q.1 q.2 = _
        unfold M_oneRound_s3
        rw [q1, if_neg (show ¬ h 1 0 ≤ nI i by rw [h1]; exact nI_ge hi (by omega)), bd_of hb, ri_k (show i < 8 by omega) (by decide)]
        dsimp only [nm]
        rw [nI_1]
      · dsimp only
        rw [wr_ap, if_pos rfl, nI_clamp (by omega)]
        by_cases u : t = i
        · rw [if_pos u, u]
        · rw [if_neg u]
          exact q3 t (by omega)) (fun q ⟨q1, q2, q3⟩ => by
      refine ⟨q.2, ?_, q2, q3⟩
      show M_oneRound_s3 (ttV (nwV mt wn v n) n) h q.1 q.2 = _
      unfold M_oneRound_s3
      rw [q1, h1, if_pos (nI_le (Nat.le_refl _) (by omega))]) ((0 : Int32), D7) ⟨rfl, eqx_rf, fun t ht => by omega⟩
  refine ⟨D2, ?_, eqx_tr (eqx_sub a2 (by decide)) (eqx_sub c2 (by decide)), c3⟩
  unfold M_oneRound
  dsimp only [nm]
  rw [bd_of a1, bd_of (show lp (fun q => M_oneRound_s2 h D7 q.1 q.2) FU (FP.dconst0, (0 : Int32)) = _ from b1), bd_of c1]
theorem m_layStrengths (hq : DZ) {h : Nat → Nat → Int32} {D : Nat → Nat → UInt64} {m : Nat} {cp : Nat → Nat → Nat} (B : cB m cp) (H : isM h m cp) {n : Nat} (h1 : h 1 0 = nI n) (hn : n ≤ 8) {k : Nat} (hk : k ≤ 60) : ∃ h2 D2, M_layStrengths h D (nI k) = some (h2, D2) ∧ eqx [38] h h2 ∧ eqx [35, 36, 37] D D2 ∧ isN h2 (mtN m cp) n ∧ (∀ i, i < n → D2 37 i = wnV m cp n i) ∧ ∀ i, i < n → D2 35 i = stV (mtN m cp) (wnV m cp n) n k i := by
  obtain ⟨h2, D2, a1, a2, a3, a4, a5⟩ := m_layWins (D := D) B H h1 hn
  have g1 : h2 1 0 = nI n := by rw [a2 1 (by decide)]; exact h1
  obtain ⟨D9, b1, b2, b3⟩ := lp_iv (st := fun q => M_layStrengths_s1 h2 q.1 q.2) (fun i q => q.1 = nI i ∧ eqx [35] D2 q.2 ∧ ∀ t, t < i → q.2 35 t = FP.dconst1) (fun r => eqx [35] D2 r ∧ ∀ t, t < n → r 35 t = FP.dconst1) 0 n (by omega) (by omega) (fun i q _ hi ⟨q1, q2, q3⟩ => by
      refine ⟨(nI (i + 1), wr q.2 35 (nI i) FP.dconst1), ?_, rfl, eqx_tr q2 (eqx_wr (by decide)), fun t ht => ?_⟩
      · show M_layStrengths_s1 h2 q.1 q.2 = _
        unfold M_layStrengths_s1
        rw [q1, g1, if_neg (nI_ge hi (by omega)), ri_k (show i < 8 by omega) (by decide)]
        dsimp only [nm]
        rw [nI_1]
      · dsimp only
        rw [wr_ap, if_pos rfl, nI_clamp (by omega)]
        by_cases u : t = i
        · rw [if_pos u]
        · rw [if_neg u]
          exact q3 t (by omega)) (fun q ⟨q1, q2, q3⟩ => by
      refine ⟨q.2, ?_, q2, q3⟩
      show M_layStrengths_s1 h2 q.1 q.2 = _
      unfold M_layStrengths_s1
      rw [q1, g1, if_pos (nI_le (Nat.le_refl _) (by omega))]) ((0 : Int32), D2) ⟨rfl, eqx_rf, fun t ht => by omega⟩
  obtain ⟨D16, c1, c2, c3⟩ := lp_iv (st := fun q => M_layStrengths_s2 (nI k) h2 q.1 q.2) (fun t q => q.1 = nI t ∧ eqx [35, 36] D2 q.2 ∧ ∀ i, i < n → q.2 35 i = stV (mtN m cp) (wnV m cp n) n t i) (fun r => eqx [35, 36] D2 r ∧ ∀ i, i < n → r 35 i = stV (mtN m cp) (wnV m cp n) n k i) 0 k (by omega) (by omega) (fun t q _ ht ⟨q1, q2, q3⟩ => by
      obtain ⟨D3, d1, d2, d3⟩ := m_oneRound hq (D := q.2) g1 hn a4 (wn := wnV m cp n) (v := stV (mtN m cp) (wnV m cp n) n t) (fun i hi => by rw [q2 37 (by decide)]; exact a5 i hi) q3
      refine ⟨(nI (t + 1), D3), ?_, rfl, eqx_tr q2 d2, d3⟩
      show M_layStrengths_s2 (nI k) h2 q.1 q.2 = _
      unfold M_layStrengths_s2
      rw [q1, if_neg (nI_ge ht (by omega)), bd_of d1]
      dsimp only [nm]
      rw [nI_1]) (fun q ⟨q1, q2, q3⟩ => by
      refine ⟨q.2, ?_, q2, q3⟩
      show M_layStrengths_s2 (nI k) h2 q.1 q.2 = _
      unfold M_layStrengths_s2
      rw [q1, if_pos (nI_le (Nat.le_refl _) (by omega))]) ((0 : Int32), D9) ⟨rfl, eqx_sub b2 (by decide), b3⟩
  refine ⟨h2, D16, ?_, a2, eqx_tr (eqx_sub a3 (by decide)) (eqx_sub c2 (by decide)), a4, fun i hi => by rw [c2 37 (by decide)]; exact a5 i hi, c3⟩
  unfold M_layStrengths
  rw [bd2_of a1, bd_of b1, bd_of c1]
