theorem am_k27 : (List.range 3).all (fun k => am_okM (261 + k)) = true := by decide +kernel
