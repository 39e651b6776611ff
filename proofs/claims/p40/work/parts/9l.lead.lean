/-! References that lead somewhere: pure. -/
abbrev hitL (en : List EnT) (a k : Nat) : Prop := (k = a ∨ prE en k = (a : Int)) ∧ enL (en.getD k enD) ≠ []
def lcdB (en : List EnT) (a : Nat) : Bool := (List.range en.length).any (fun k => decide (hitL en a k))
abbrev lcd (en : List EnT) (a : Nat) : Prop := lcdB en a = true
theorem lcd_iff {en : List EnT} {a : Nat} : lcd en a ↔ ∃ k, k < en.length ∧ hitL en a k := by
  unfold lcd lcdB
  rw [List.any_eq_true]
  constructor
  · rintro ⟨k, h1, h2⟩
    exact ⟨k, List.mem_range.mp h1, of_decide_eq_true h2⟩
  · rintro ⟨k, h1, h2⟩
    exact ⟨k, List.mem_range.mpr h1, decide_eq_true h2⟩
def nxE (en : List EnT) (e : Int) : Int := if e = -1 then -1 else enX (en.getD e.toNat enD)
/-- the first located one among d -/
def wlk (en : List EnT) : Nat → Int → Int
  | 0, _ => -1
  | d + 1, e => if e = -1 then -1 else if lcd en e.toNat then e else wlk en d (nxE en e)
abbrev endE (en : List EnT) (e : Int) : Int := wlk en (en.length + 1) e
/-- references of an entry -/
theorem nxE_in {en : List EnT} (h : okRf en) {e : Int} (he : -1 ≤ e ∧ e < (en.length : Int)) : -1 ≤ nxE en e ∧ nxE en e < (en.length : Int) := by
  unfold nxE
  split
  · omega
  · have := (h _ (en_mem (i := e.toNat) (by omega))).1
    omega
/-! sums -/
def sumN (f : Nat → Nat) : Nat → Nat
  | 0 => 0
  | n + 1 => sumN f n + f n
/-! dead ones -/
abbrev xE (en : List EnT) (i : Nat) : Int := enX (en.getD i enD)
abbrev bE (en : List EnT) (i t : Nat) : Prop := enO (en.getD i enD) / 2 ^ t % 2 = 1
def refE (en : List EnT) (t : Nat) : Nat := sumN (fun a => (if xE en a = (t : Int) then 1 else 0) + (if bE en a t then 1 else 0)) en.length
def deadC (en : List EnT) : Nat := sumN (fun t => if endE en (t : Int) = -1 then refE en t else 0) en.length
