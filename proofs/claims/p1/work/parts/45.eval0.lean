/-! THE LAW OVER UNKNOWN SCRIPTS, by evaluation in the kernel -/
def iv_V0 : iv_V := [(-2147483648, 2147483647), (-2147483648, 2147483647), (-2147483648, 2147483647), (-2147483648, 2147483647), (-2147483648, 2147483647), (-2147483648, 2147483647)]
def iv_tz (t : iv_T) : Nat → Nat
  | 0 => 0
  | n + 1 => iv_tz t n + (match iv_tq t n with
    | some c => iv_cz c
    | none => 0)
theorem iv_tz_s {t : iv_T} {h : iv_H} (r : iv_τ t h) : ∀ n : Nat, n ≤ h.length → iv_sz (h.take n) = iv_tz t n
  | 0, _ => rfl
  | n + 1, hn => by
    have ih := iv_tz_s r n (by omega)
    have e := congrFun r.2 n
    have hlt : n < h.length := by omega
    rw [List.getElem?_eq_getElem hlt] at e
    rw [List.take_succ, List.getElem?_eq_getElem hlt]
    show iv_sz (h.take n ++ [h[n]]) = iv_tz t n + (match iv_tq t n with
      | some c => iv_cz c
      | none => 0)
    rw [iv_sz_app, ih, e]
def iv_leaf (q : iv_V × Option Value × iv_T) : Bool := (match q.2.1 with
  | some (.int x) => decide (x = 1)
  | _ => false) && Nat.ble q.2.2.1 600000 && Nat.ble (iv_tz q.2.2 q.2.2.1) 7302250
def iv_chkV (len : Nat) (c : Int32) (V : iv_V) : Bool := match iv_yr 60000 (some (len, c)) 12 235 V (0, iv_en 235 [.retAddr 0], [], (0, iv_em 9)) with
  | some l => l.all iv_leaf
  | none => false
def iv_chk (len : Nat) (c : Int32) : Bool := iv_chkV len c iv_V0
/-- the second and third number of the script within bounds -/
def iv_V2 (a b c d : Int) : iv_V := [(-2147483648, 2147483647), (a, b), (c, d), (-2147483648, 2147483647), (-2147483648, 2147483647), (-2147483648, 2147483647)]
