/-! the sheet with a rim around it; what holds, bars and may come, in plain numbers -/
def celN (x y : Nat) : Nat := 18 * (y + 1) + x + 1
def onC (c : Nat) : Bool := decide (18 ≤ c) && decide (c < 306) && decide (1 ≤ c % 18) && decide (c % 18 ≤ 16)
def stp (c d : Nat) : Nat := if d = 0 then c - 18 else if d = 1 then c + 1 else if d = 2 then c + 18 else c - 1
def opp (d : Nat) : Nat := (d + 2) % 4
def pad (on : Nat → Nat) (c : Nat) : Nat := if onC c then on ((c % 18 - 1) + 16 * (c / 18 - 1)) else 0
def gOf (kd mo gl : Nat → Nat) (p h d : Nat) : Nat :=
  if kd p = 2 then (if h = 0 then (if d = 1 then 0 else gl (4 * p + d)) else if d = 0 then mo p % 64 else if d = 1 then gl (4 * p + 1) else if d = 2 then mo p / 64 else 0) else gl (4 * p + d)
def brd (kd mo : Nat → Nat) (p d : Nat) : Bool := decide ((kd p = 4 ∨ kd p = 5) ∧ mo p / 2 ^ d % 2 = 1)
def hAt (kd mo gl sg B : Nat → Nat) (p h c d : Nat) : Nat :=
  if B (stp c d) = 0 then 0 else if gOf kd mo gl p h d = 0 then 0 else if gOf kd mo gl p h d = gOf kd mo gl ((B (stp c d) - 1) / 2) ((B (stp c d) - 1) % 2) (opp d) then sg (gOf kd mo gl p h d) else 0
/-- the sum over the sides below n, the other half's too where there is one -/
def hUp (kd mo gl sg B : Nat → Nat) (p c : Nat) : Nat → Nat
  | 0 => 0
  | n + 1 => hUp kd mo gl sg B p c n + hAt kd mo gl sg B p 0 c n + (if kd p = 2 then hAt kd mo gl sg B p 1 (c + 1) n else 0)
def hOf (kd mo gl sg B : Nat → Nat) (p c : Nat) : Nat := hUp kd mo gl sg B p c 4
def op1 (kd mo B : Nat → Nat) (p c d : Nat) : Bool := B (stp c d) == 0 || (!brd kd mo ((B (stp c d) - 1) / 2) (opp d) && !brd kd mo p d)
def opn (kd mo B : Nat → Nat) (p c : Nat) : Bool := op1 kd mo B p c 0 && op1 kd mo B p c 1 && op1 kd mo B p c 2 && op1 kd mo B p c 3
def fre (kd B : Nat → Nat) (p c : Nat) : Bool := onC c && B c == 0 && (kd p != 2 || (onC (c + 1) && B (c + 1) == 0))
def mayC (kd mo gl sg : Nat → Nat) (w : Nat) (B : Nat → Nat) (p c : Nat) : Bool :=
  kd p != 1 && fre kd B p c && decide (w ≤ hOf kd mo gl sg B p c) && opn kd mo B p c && (kd p != 2 || opn kd mo B p (c + 1))
/-- what tables of pieces and glues are like -/
def okT (kd mo gl sg : Nat → Nat) : Prop := (∀ p, kd p ≤ 5) ∧ (∀ p, mo p ≤ 3250) ∧ (∀ p, kd p = 2 → mo p % 64 ≤ 50 ∧ mo p / 64 ≤ 50) ∧ (∀ k, gl k ≤ 50) ∧ (∀ g, sg g ≤ 3) ∧ sg 0 = 0
/-- what a sheet is like: codes of pieces that there are, none beyond it -/
def okB (P : Nat) (on : Nat → Nat) : Prop := ∀ k, on k ≤ 2 * P
theorem gOf_le {kd mo gl sg : Nat → Nat} (h : okT kd mo gl sg) (p x d : Nat) : gOf kd mo gl p x d ≤ 50 := by
  unfold gOf
  have h1 := h.2.2.2.1 (4 * p + d)
  have h2 := h.2.2.2.1 (4 * p + 1)
  split
  · rename_i hk
    have h3 := h.2.2.1 p hk
    repeat' split
    all_goals omega
  · exact h1
theorem hAt_le {kd mo gl sg : Nat → Nat} (h : okT kd mo gl sg) (B : Nat → Nat) (p x c d : Nat) : hAt kd mo gl sg B p x c d ≤ 3 := by
  unfold hAt
  repeat' split
  all_goals first | omega | exact h.2.2.2.2.1 _
theorem hUp_le {kd mo gl sg : Nat → Nat} (h : okT kd mo gl sg) (B : Nat → Nat) (p c : Nat) : ∀ n, hUp kd mo gl sg B p c n ≤ 6 * n := by
  intro n
  induction n with
  | zero => exact Nat.le_refl _
  | succ n ih =>
    have h1 := hAt_le h B p 0 c n
    have h2 := hAt_le h B p 1 (c + 1) n
    unfold hUp
    split <;> omega
theorem pad_cel {on : Nat → Nat} {x y : Nat} (hx : x < 16) (hy : y < 16) : pad on (celN x y) = on (x + 16 * y) := by
  unfold pad celN
  have h1 : (18 * (y + 1) + x + 1) % 18 = x + 1 := by omega
  have h2 : (18 * (y + 1) + x + 1) / 18 = y + 1 := by omega
  have h3 : onC (18 * (y + 1) + x + 1) = true := by
    unfold onC
    simp only [h1, Bool.and_eq_true, decide_eq_true_eq]
    omega
  rw [if_pos h3, h1, h2]
  congr 1
theorem onC_cel {x y : Nat} (hx : x < 16) (hy : y < 16) : onC (celN x y) = true := by
  unfold celN onC
  have h1 : (18 * (y + 1) + x + 1) % 18 = x + 1 := by omega
  simp only [h1, Bool.and_eq_true, decide_eq_true_eq]
  omega
theorem pad_off {on : Nat → Nat} {c : Nat} (h : onC c = false) : pad on c = 0 := by
  unfold pad
  rw [h]
  rfl
/-- is there a place on side d of (x, y), and which -/
def nbO (x y d : Nat) : Bool := if d = 0 then decide (0 < y) else if d = 1 then decide (x < 15) else if d = 2 then decide (y < 15) else decide (0 < x)
def nbX (x d : Nat) : Nat := if d = 1 then x + 1 else if d = 3 then x - 1 else x
def nbY (y d : Nat) : Nat := if d = 0 then y - 1 else if d = 2 then y + 1 else y
theorem nb_stp {x y d : Nat} (hx : x < 16) (hy : y < 16) (hd : d < 4) (h : nbO x y d = true) : stp (celN x y) d = celN (nbX x d) (nbY y d) ∧ nbX x d < 16 ∧ nbY y d < 16 := by
  obtain rfl | rfl | rfl | rfl : d = 0 ∨ d = 1 ∨ d = 2 ∨ d = 3 := by omega
  all_goals
    simp [nbO] at h
    simp [stp, celN, nbX, nbY]
    omega
theorem nb_off {x y d : Nat} (hx : x < 16) (hy : y < 16) (hd : d < 4) (h : nbO x y d = false) : onC (stp (celN x y) d) = false := by
  obtain rfl | rfl | rfl | rfl : d = 0 ∨ d = 1 ∨ d = 2 ∨ d = 3 := by omega
  all_goals
    simp [nbO] at h
    simp [stp, celN, onC]
    omega
theorem nb_pad {on : Nat → Nat} {x y d : Nat} (hx : x < 16) (hy : y < 16) (hd : d < 4) : pad on (stp (celN x y) d) = if nbO x y d then on (nbX x d + 16 * nbY y d) else 0 := by
  cases h : nbO x y d with
  | false => rw [pad_off (nb_off hx hy hd h)]; rfl
  | true =>
    obtain ⟨h1, h2, h3⟩ := nb_stp hx hy hd h
    rw [h1, pad_cel h2 h3]
    rfl
