theorem am_k8 : (List.range 17).all (fun k => am_okM (93 + k)) = true := by decide +kernel
