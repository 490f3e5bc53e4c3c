theorem am_k4 : (List.range 9).all (fun k => am_okM (50 + k)) = true := by decide +kernel
