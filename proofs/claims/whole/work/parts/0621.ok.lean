theorem am_k20 : (List.range 5).all (fun k => am_okM (222 + k)) = true := by decide +kernel
