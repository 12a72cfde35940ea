def tt : List AI := [ea_any, ea_any, ea_any, ea_any, ea_any, ea_any]
theorem zz_1 : ea_law (fun X => tb_P (some X)) 100000 600002 7302232 1000 40 tt [(244, [])] = true := by decide +kernel
