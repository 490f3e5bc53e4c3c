theorem am_k9 : (List.range 19).all (fun k => am_okM (110 + k)) = true := by decide +kernel
