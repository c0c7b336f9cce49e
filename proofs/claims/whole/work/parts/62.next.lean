/-! the next row: pure, and checked over all rows of at most seven -/
def fk (L : Nat → Nat) : Nat → Nat
  | 0 => 0
  | m + 1 => bif Nat.ble (L m) (L (m + 1)) then m + 1 else fk L m
def fj (L : Nat → Nat) (c : Nat) : Nat → Nat
  | 0 => 0
  | j + 1 => bif Nat.ble c (L (j + 1)) then j + 1 else fj L c j
/-- two places changed about, then the places from m to e turned round -/
def sw2 (L : Nat → Nat) (k j i : Nat) : Nat := if i = k then L j else if i = j then L k else L i
def nxL (L : Nat → Nat) (m j e i : Nat) : Nat := if m ≤ i ∧ i ≤ e then sw2 L (m - 1) j (m + e - i) else sw2 L (m - 1) j i
def gl (p : List Nat) (i : Nat) : Nat := p.getD i 0
def stp (n : Nat) (p p' : List Nat) (m j : Nat) : Bool := Nat.ble 1 m && (Nat.ble m j && ((List.range n).all (fun i => Nat.beq (nxL (gl p) m j (n - 1) i) (gl p' i))))
def chn (n : Nat) : List (List Nat) → List Nat → Bool
  | [], p => Nat.beq (fk (gl p) (n - 1)) 0
  | p' :: t, p => stp n p p' (fk (gl p) (n - 1)) (fj (gl p) (gl p (fk (gl p) (n - 1) - 1)) (n - 1)) && chn n t p'
def chk (n : Nat) : Bool := match perms n n 0 with
  | [] => false
  | p :: t => (List.range n).all (fun i => Nat.beq (gl p i) i) && (Nat.ble t.length 5039 && chn n t p)
theorem chk_5 : ∀ n, n < 6 → chk n = true := by decide +kernel
theorem chk_6 : chk 6 = true := by decide +kernel
