theorem law_walk {p : Program} {l : Launch} {e : Env} {s : State} {mm : MethodId} {below : List Frame} {meth : Method} {cd : Code} {dC : Nat → ClassId} {dI : Nat → Nat → Nat} {cy : Nat → ClassId} {b L : Nat} {xs : Nat → Int32} (C0 : lw_At p s mm meth cd b L xs) (hlt : l.stackTraces = false) (hN : NW s) (hNC : NC s) (hX0 : EX (lwA s) s s.heap) (hK : va_K (dC, dI) vwCl (TY cy) s) {x : Nat → Nat} {a5 a6 a7 a8 a9 a10 : Nat} : ∀ (n69 kc kz : Nat), kc + 3 * n69 ≤ 600104 → kz + 18 * n69 ≤ 7301314 → LK p l e s mm below meth cd dC dI cy b x a5 a6 a7 a8 a9 a10 (G_L_law_L69 L xs n69) kc kz := by
  intro n69
  induction n69 with
  | zero => intro kc kz hkc hkz F D P w5 w6 w7 w8 w9 w10 l8_69 H locs ls h; exact absurd h (by simp [G_L_law_L69])
  | succ n69 ih =>
    intro kc kz hkc hkz
    exact law_turn C0 hlt hN hNC hX0 hK (by omega) (by omega) (ih (kc + 3) (kz + 18) (by omega) (by omega))
