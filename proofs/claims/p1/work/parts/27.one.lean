/-! p1: one call on a new object, over bounds, by the kernel. -/
def p1_pol (m k : Nat) : List Int := match m, k with
  | 1, 1 => [0, 1]
  | 4, 1 => [0]
  | 5, 1 => [0, 1, 2, 3, 4]
  | 7, 1 => [0, 1]
  | 8, 1 => [0, 1, 2, 3, 4, 5, 6, 7, 8]
  | 10, 1 => [0, 1]
  | 13, 1 => [0, 1]
  | 13, 2 => [0, 1]
  | 14, 1 => [0, 1, 2, 3]
  | _, _ => []
noncomputable def p1_go (V : sy_V) : Bool := sy_law tb_P tb_T (fun V => sy_call tb_P tb_T V 2000 20) p1_pol 600003 7302232 1900 V 23 w0_l [] w0
set_option maxRecDepth 100000 in
theorem p1_ok : p1_go w0_V = true := by decide +kernel
