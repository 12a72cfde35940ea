def ts_c : CN := (37, [zz_r 8, .inl (0, 11), zz_any, zz_any, zz_any, zz_any], [], (1, 0, 1), [], [])
def ts_h : List (Nat × HA) := [(25, ([(0, zz_r 8), (1, .inl (0, 11)), (2, zz_any), (3, zz_any), (4, zz_any), (5, zz_any), (7, zz_any), (8, .inl (0, 200))], [], 200, [(1, .inl 8)]))]
set_option maxRecDepth 100000 in
theorem ts_1 : cn_ck (tb_P none) tb_G (fun _ => []) ts_h ts_c 400 = true := by decide +kernel
