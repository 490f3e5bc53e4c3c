theorem am_k15 : (List.range 12).all (fun k => am_okM (184 + k)) = true := by decide +kernel
