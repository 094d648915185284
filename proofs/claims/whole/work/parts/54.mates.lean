/-! pairs of strands: mates -/
def shU (p m : Nat) : Nat := if p ≤ m then m + 2 else m
def shD (p m : Nat) : Nat := if p < m then m - 2 else m
def bornF (mu : Nat → Nat) (p y : Nat) : Nat := if y < p then shU p (mu y) else if y = p then p + 1 else if y = p + 1 then p else shU p (mu (y - 2))
def diesF (mu : Nat → Nat) (p y : Nat) : Nat := shD p (mu (if y < p then y else y + 2))
def swF (mu : Nat → Nat) (p : Nat) : Nat → Nat := nset (nset (nset (nset mu p (mu (p + 1))) (mu (p + 1)) p) (p + 1) (mu p)) (mu p) (p + 1)
/-- mates of n strands -/
def MI (mu : Nat → Nat) (n : Nat) : Prop := ∀ y, y < n → mu y < n ∧ mu y ≠ y ∧ mu (mu y) = y
theorem MI_born {mu : Nat → Nat} {n p : Nat} (h : MI mu n) (hp : p ≤ n) : MI (bornF mu p) (n + 2) := by
  intro y hy
  have key : ∀ z, z < n → bornF mu p (shU p z) = shU p (mu z) ∧ shU p z < n + 2 := by
    intro z hz
    unfold bornF shU
    by_cases c : p ≤ z
    · rw [if_pos c, if_neg (by omega), if_neg (by omega), if_neg (by omega), Nat.add_sub_cancel]
      exact ⟨rfl, by omega⟩
    · rw [if_neg c, if_pos (by omega)]
      exact ⟨rfl, by omega⟩
  have inj : ∀ z w, shU p z = shU p w → z = w := by
    intro z w e
    unfold shU at e
    split at e <;> split at e <;> omega
  by_cases c1 : y = p
  · subst c1
    have e1 : bornF mu y y = y + 1 := by unfold bornF; rw [if_neg (by omega), if_pos rfl]
    have e2 : bornF mu y (y + 1) = y := by unfold bornF; rw [if_neg (by omega), if_neg (by omega), if_pos rfl]
    rw [e1, e2]
    exact ⟨by omega, by omega, rfl⟩
  by_cases c2 : y = p + 1
  · subst c2
    have e1 : bornF mu p p = p + 1 := by unfold bornF; rw [if_neg (by omega), if_pos rfl]
    have e2 : bornF mu p (p + 1) = p := by unfold bornF; rw [if_neg (by omega), if_neg (by omega), if_pos rfl]
    rw [e2, e1]
    exact ⟨by omega, by omega, rfl⟩
  obtain ⟨z, hz, rfl⟩ : ∃ z, z < n ∧ y = shU p z := by
    by_cases c3 : y < p
    · exact ⟨y, by omega, by unfold shU; rw [if_neg (by omega)]⟩
    · exact ⟨y - 2, by omega, by unfold shU; rw [if_pos (by omega)]; omega⟩
  obtain ⟨h1, h2, h3⟩ := h z hz
  rw [(key z hz).1, (key (mu z) h1).1, h3]
  exact ⟨(key (mu z) h1).2, fun e => h2 (inj _ _ e), rfl⟩
theorem MI_dies {mu : Nat → Nat} {n p : Nat} (h : MI mu (n + 2)) (hp : p ≤ n) (hm : mu p = p + 1) : MI (diesF mu p) n ∧ ∀ y, y < n → mu (if y < p then y else y + 2) ≠ p ∧ mu (if y < p then y else y + 2) ≠ p + 1 := by
  have hm2 : mu (p + 1) = p := by rw [← hm]; exact (h p (by omega)).2.2
  have nr : ∀ z, z < n + 2 → z ≠ p → z ≠ p + 1 → mu z ≠ p ∧ mu z ≠ p + 1 := by
    intro z hz n1 n2
    have h3 := (h z hz).2.2
    constructor
    · intro e
      rw [e, hm] at h3
      exact n2 h3.symm
    · intro e
      rw [e, hm2] at h3
      exact n1 h3.symm
  refine ⟨fun y hy => ?_, fun y hy => nr _ (by split <;> omega) (by split <;> omega) (by split <;> omega)⟩
  unfold diesF
  generalize hz : (if y < p then y else y + 2) = z
  have z1 : z < n + 2 ∧ z ≠ p ∧ z ≠ p + 1 ∧ shD p z = y := by
    unfold shD
    rw [← hz]
    by_cases c : y < p
    · rw [if_pos c, if_neg (by omega)]
      omega
    · rw [if_neg c, if_pos (by omega)]
      omega
  obtain ⟨h1, h2, h3⟩ := h z z1.1
  obtain ⟨n1, n2⟩ := nr z z1.1 z1.2.1 z1.2.2.1
  have w1 : (if shD p (mu z) < p then shD p (mu z) else shD p (mu z) + 2) = mu z := by
    unfold shD
    by_cases c : p < mu z
    · rw [if_pos c, if_neg (by omega)]
      omega
    · rw [if_neg c, if_pos (by omega)]
  rw [w1, h3]
  refine ⟨?_, fun e => ?_, z1.2.2.2⟩
  · unfold shD
    split <;> omega
  · have : mu z = z := by
      rw [← w1, e, ← hz]
    exact h2 this
theorem MI_sw {mu : Nat → Nat} {n p : Nat} (h : MI mu n) (hp : p + 2 ≤ n) (hm : mu p ≠ p + 1) : MI (swF mu p) n := by
  obtain ⟨a1, a2, a3⟩ := h p (by omega)
  obtain ⟨b1, b2, b3⟩ := h (p + 1) (by omega)
  have hb : mu (p + 1) ≠ p := fun e => by rw [e] at b3; exact hm b3
  have hab : mu p ≠ mu (p + 1) := fun e => by rw [e, b3] at a3; omega
  have ev : ∀ y, swF mu p y = if y = mu p then p + 1 else if y = p + 1 then mu p else if y = mu (p + 1) then p else if y = p then mu (p + 1) else mu y := fun y => rfl
  intro y hy
  rw [ev y]
  by_cases c1 : y = mu p
  · rw [if_pos c1, ev (p + 1), if_neg (fun e => hm e.symm), if_pos rfl]
    exact ⟨by omega, fun e => hm (c1.symm.trans e.symm), c1.symm⟩
  rw [if_neg c1]
  by_cases c2 : y = p + 1
  · rw [if_pos c2, ev (mu p), if_pos rfl]
    exact ⟨a1, fun e => c1 e.symm, c2.symm⟩
  rw [if_neg c2]
  by_cases c3 : y = mu (p + 1)
  · rw [if_pos c3, ev p, if_neg (fun e => a2 e.symm), if_neg (by omega), if_neg (fun e => hb e.symm), if_pos rfl]
    exact ⟨by omega, fun e => hb (c3.symm.trans e.symm), c3.symm⟩
  rw [if_neg c3]
  by_cases c4 : y = p
  · rw [if_pos c4, ev (mu (p + 1)), if_neg (fun e => hab e.symm), if_neg b2, if_pos rfl]
    exact ⟨b1, fun e => c3 e.symm, c4.symm⟩
  rw [if_neg c4]
  obtain ⟨y1, y2, y3⟩ := h y hy
  have n1 : mu y ≠ mu p := fun e => by rw [e, a3] at y3; exact c4 y3.symm
  have n2 : mu y ≠ p + 1 := fun e => by rw [e] at y3; exact c3 y3.symm
  have n3 : mu y ≠ mu (p + 1) := fun e => by rw [e, b3] at y3; exact c2 y3.symm
  have n4 : mu y ≠ p := fun e => by rw [e] at y3; exact c1 y3.symm
  rw [ev (mu y), if_neg n1, if_neg n2, if_neg n3, if_neg n4]
  exact ⟨y1, y2, y3⟩
abbrev btw (a b c : Nat) : Prop := (if a < b then a else b) < c ∧ c < (if a < b then b else a)
/-- the pair of p holds just one of the pair of p + 1 -/
abbrev mxd (mu : Nat → Nat) (p : Nat) : Prop := ¬ (btw p (mu p) (p + 1) ↔ btw p (mu p) (mu (p + 1)))
/-- the mates in the model's row -/
def mtR (a : Nat → Nat → Int32) (mu : Nat → Nat) (n : Nat) : Prop := ∀ y, y < n → a 16 y = nI (mu y)
section GOS
variable {G : mG} {d N M : Nat} {h : mH} {post : Option Value → mH → Prop} {v : Nat → Int32} {a : Nat → Nat → Int32}
set_option maxRecDepth 10000 in
theorem m_isMixed {x y z w : Nat} (hx : x < 100) (hy : y < 100) (hz : z < 100) (hw : w < 100) (hp : post (some (.int (if ¬ (btw x y z ↔ btw x y w) then 1 else 0))) h) : MC G MX7_isMixed d 0 0 [.int (nI x), .int (nI y), .int (nI z), .int (nI w)] h N post := by
  have st2 : ∀ lo hi : Nat, lo = (if x < y then x else y) → hi = (if x < y then y else x) → MW G MX7_isMixed (mz G d 0 0 post) 24 [some (.int (nI x)), some (.int (nI y)), some (.int (nI z)), some (.int (nI w)), some (.int (nI lo)), some (.int (nI hi))] [] h (N, 0, 0) := by
    intro lo hi e1 e2
    have hlo : lo < 100 := by rw [e1]; split <;> omega
    have hhi : hi < 100 := by rw [e2]; split <;> omega
    unfold btw at hp
    rw [← e1, ← e2] at hp
    have q1 : (nI z ≤ nI lo) ↔ ¬ lo < z := by simp (disch := omega) only [z_nI, z_lit, z_neg, z_add, z_sub, z_mul, z_lt, z_le, z_eq, z_in, z_cl]; omega
    have q2 : (nI hi ≤ nI z) ↔ ¬ z < hi := by simp (disch := omega) only [z_nI, z_lit, z_neg, z_add, z_sub, z_mul, z_lt, z_le, z_eq, z_in, z_cl]; omega
    have q3 : (nI w ≤ nI lo) ↔ ¬ lo < w := by simp (disch := omega) only [z_nI, z_lit, z_neg, z_add, z_sub, z_mul, z_lt, z_le, z_eq, z_in, z_cl]; omega
    have q4 : (nI hi ≤ nI w) ↔ ¬ w < hi := by simp (disch := omega) only [z_nI, z_lit, z_neg, z_add, z_sub, z_mul, z_lt, z_le, z_eq, z_in, z_cl]; omega
    have b01' : ¬ ((0 : Int32) = 1) := by decide
    have b10' : ¬ ((1 : Int32) = 0) := by decide
    refine MW.run1 gd_X7_isMixed [] 40 ?_
    simp (disch := omega) only [↓EVi, ↓EVc, ↓ft_X7_isMixed, ↓reduceIte, ↓EV_obs, ↓EV_obn, ↓EV_ais, ↓EV_ain, mdF, mRun, List.mem_cons, List.not_mem_nil, or_false, mtab_eq, Nat.reduceEqDiff, Nat.zero_add, q1, q2, q3, q4, b01', b10', mset2, b10, b00, not_true_eq_false, not_false_eq_true, true_implies, false_implies, implies_true, and_true, true_and, Nat.le_refl, true_or, or_true, eq_self, List.length_cons, List.length_nil, Nat.reduceAdd, Nat.reduceLT, Nat.reduceLeDiff]
    by_cases k1 : lo < z <;> by_cases k2 : z < hi <;> by_cases k3 : lo < w <;> by_cases k4 : w < hi <;> simp only [k1, k2, k3, k4, true_and, and_true, false_and, and_false, and_self, not_true_eq_false, not_false_eq_true, iff_self, iff_true, iff_false, true_iff, false_iff, ↓reduceIte] at hp <;> simp only [k1, k2, k3, k4, not_true_eq_false, not_false_eq_true, true_implies, false_implies, and_true, true_and, implies_true, hp]
  refine MC.of (L0 := [some (.int (nI x)), some (.int (nI y)), some (.int (nI z)), some (.int (nI w)), none, none]) gd_X7_isMixed (Nat.le_of_ble_eq_true rfl) rfl (MW.run gd_X7_isMixed [24] 20 ?_)
  have q0 : (nI y ≤ nI x) ↔ ¬ x < y := by simp (disch := omega) only [z_nI, z_lit, z_neg, z_add, z_sub, z_mul, z_lt, z_le, z_eq, z_in, z_cl]; omega
  simp (disch := omega) only [↓EVi, ↓EVc, ↓ft_X7_isMixed, ↓reduceIte, ↓EV_obs, ↓EV_obn, ↓EV_ais, ↓EV_ain, mdF, mRun, List.mem_cons, List.not_mem_nil, or_false, mtab_eq, Nat.reduceEqDiff, Nat.zero_add, q0, mset2, b10, b00, not_true_eq_false, not_false_eq_true, true_implies, false_implies, implies_true, and_true, true_and, Nat.le_refl, true_or, or_true, eq_self, List.length_cons, List.length_nil, Nat.reduceAdd, Nat.reduceLT, Nat.reduceLeDiff]
  by_cases k : x < y
  · simp only [k, not_true_eq_false, not_false_eq_true, true_implies, false_implies, true_and, and_true]
    exact st2 x y (by rw [if_pos k]) (by rw [if_pos k])
  · simp only [k, not_true_eq_false, not_false_eq_true, true_implies, false_implies, true_and, and_true]
    exact st2 y x (by rw [if_neg k]) (by rw [if_neg k])
end GOS
